/-! THE REFERENCE: year by year -/
theorem cI_P {σ : St} {R : RF} (h : H0 σ R) (k : Int32 → St → Option AR) : cI (Cc 240 0 [vR 96 0] σ) k = k (nI (nP R)) σ := by rw [s_places, cI_s, h.P]
theorem cI_M {σ : St} {R : RF} (h : H0 σ R) (k : Int32 → St → Option AR) : cI (Cc 241 0 [vR 96 0] σ) k = k (nI (nM R)) σ := by rw [s_marks, cI_s, h.M]
theorem cI_L {σ : St} {R : RF} (h : H0 σ R) (k : Int32 → St → Option AR) : cI (Cc 242 0 [vR 96 0] σ) k = k (nI (nL R)) σ := by rw [s_men, cI_s, h.L]
theorem cI_Y {σ : St} {R : RF} (h : H0 σ R) (k : Int32 → St → Option AR) : cI (Cc 243 0 [vR 96 0] σ) k = k (nI (yr R)) σ := by rw [s_years, cI_s, h.years]
/-- where they are now -/
def NH (σ : St) (R : RF) (f : Nat → Nat) : Prop := ∀ l, l < nL R → gI σ 3505 0 l = nI (f l)
def nwS (σ : St) (n : Nat) (F : Nat → Nat) : St := pI σ 3505 0 (fun q => if q < n then nI (F q) else gI σ 3505 0 q)
theorem nwS_g {σ : St} {n q : Nat} {F : Nat → Nat} (h : q < n) : gI (nwS σ n F) 3505 0 q = nI (F q) := by
  unfold nwS
  rw [gI_pIs, if_pos h]
theorem nwS_o {σ : St} {n : Nat} {F : Nat → Nat} {t i j : Nat} (h : t ≠ 3505) : gI (nwS σ n F) t i j = gI σ t i j := gI_pIn h
theorem nwS_c {σ : St} {n : Nat} {F G : Nat → Nat} (h : ∀ q, q < n → F q = G q) : nwS σ n F = nwS σ n G := by
  unfold nwS
  congr 1
  funext q
  by_cases hq : q < n
  · rw [if_pos hq, if_pos hq, h q hq]
  · rw [if_neg hq, if_neg hq]
theorem nwS_s {σ : St} {n j v : Nat} {F : Nat → Nat} (h : j < n) : sI (nwS σ n F) 3505 0 j (nI v) = nwS σ n (fun q => if q = j then v else F q) := by
  unfold nwS
  rw [sI_pI]
  congr 1
  funext q
  unfold upd
  by_cases hq : q = j
  · dsimp only
    rw [if_pos hq, if_pos (by omega), if_pos hq]
  · dsimp only
    rw [if_neg hq, if_neg hq]
theorem nwS_id {σ : St} {R : RF} {f : Nat → Nat} (h : NH σ R f) : nwS σ (nL R) f = σ := by
  unfold nwS
  have : (fun q => if q < nL R then nI (f q) else gI σ 3505 0 q) = gI σ 3505 0 := by
    funext q
    by_cases hq : q < nL R
    · rw [if_pos hq, h q hq]
    · rw [if_neg hq]
  rw [this, pI_id]
theorem nwS_NH {σ : St} {R : RF} {f : Nat → Nat} : NH (nwS σ (nL R) f) R f := fun _ hl => nwS_g hl
theorem H0.nw {σ : St} {R : RF} {n : Nat} {F : Nat → Nat} (h : H0 σ R) : H0 (nwS σ n F) R := h.p (fun _ => rfl)
theorem s_exchanges {σ : St} {R : RF} (h : H0 σ R) {f : Nat → Nat} (hn : NH σ R f) {y : Nat} (hy : y < 2 ^ 31) : Cc 265 0 [vR 96 0, vI (nI y)] σ = some (none, nwS σ (nL R) (exc R y f)) := by
  have hbb := h.b
  rw [c_M_exchanges]
  have key : ∀ k j (o3 o4 o5 : Option AV), j + k = nA R → Vv 265 0 2 [some (vR 96 0), some (vI (nI y)), some (vI (nI j)), o3, o4, o5] [] (nwS σ (nL R) (exn R y f j)) = some (none, nwS σ (nL R) (exc R y f)) := by
    intro k
    induction k with
    | zero =>
      intro j o3 o4 o5 hj
      have hj : j = nA R := by omega
      subst hj
      rw [w_M_exchanges_2, ixh8, nwS_o (by decide), h.A, if_neg (nI_nlt (Nat.le_refl _) (by omega))]
      rfl
    | succ k ih =>
      intro j o3 o4 o5 hj
      have hjA : j < nA R := by omega
      have ha := (h.1.2.2.2.2.2.2.2.2 j hjA)
      rw [w_M_exchanges_2, ixh8, nwS_o (by decide), h.A, if_pos (nI_lt hjA (by omega)), four_n, ix_nI (by omega) (by omega), nwS_o (by decide), nI_3, nI_1, nI_2, nI_1]
      by_cases hk : ak R j = 1
      · rw [(h.a1 hjA hk).1, if_neg (nn1 (by have := ha.1 hk; omega))]
        have e1 : exn R y f (j + 1) = exn R y f j := by
          show cond (!decide (ak R j = 1) && decide (ay R j = y)) _ _ = _
          rw [decide_eq_true hk]; rfl
        have := ih (j + 1) o3 o4 o5 (by omega)
        rw [e1] at this
        exact this
      · have ha := ha.2 hk
        obtain ⟨c1, c2, c3, c4⟩ := h.a0 hjA hk
        rw [c1, if_pos rfl, ix_nI (by omega) (by omega), nwS_o (by decide), c4]
        by_cases hyy : ay R j = y
        · rw [if_pos (by rw [hyy]), ix_nI (by omega) (by omega), ix_nI (by omega) (by omega), nwS_o (by decide), nwS_o (by decide), c2, c3, ix_nI (by omega) (by omega), ix_nI (by omega) (by omega), ix_nI (by omega) (by omega), ix_nI (by omega) (by omega), nwS_g ha.1, nwS_g ha.2.1, nwS_s ha.1, nwS_s ha.2.1]
          have e1 : exn R y f (j + 1) = sw (exn R y f j) (aa R j) (ab R j) := by
            show cond (!decide (ak R j = 1) && decide (ay R j = y)) _ _ = _
            rw [decide_eq_false hk, decide_eq_true hyy]; rfl
          have := ih (j + 1) (some (vI (nI (aa R j)))) (some (vI (nI (ab R j)))) (some (vI (nI (exn R y f j (aa R j))))) (by omega)
          rw [e1] at this
          exact this
        · rw [if_neg (fun z => hyy ((nI_eq (by omega) hy).mp z))]
          have e1 : exn R y f (j + 1) = exn R y f j := by
            show cond (!decide (ak R j = 1) && decide (ay R j = y)) _ _ = _
            rw [decide_eq_false hyy, Bool.and_false]; rfl
          have := ih (j + 1) o3 o4 o5 (by omega)
          rw [e1] at this
          exact this
  have := key (nA R) 0 none none none (by omega)
  have e0 : nwS σ (nL R) (exn R y f 0) = σ := nwS_id hn
  rw [e0] at this
  exact this
/-- the one of most, or of least -/
theorem s_oneBy {σ : St} {R : RF} (h : H0 σ R) {fl : Nat → Bool} (hs : SE σ R fl) {f : Nat → Nat} (hn : NH σ R f) (hv : VP R f) (but sg : Int32) (P : Nat → Bool) (cmp : Nat → Nat → Bool)
    (hP : ∀ l, l < nL R → (nI l = but) = (P l = false)) (hc : ∀ a b, a ≤ 693 → b ≤ 693 → (sg * nI a ≤ sg * nI b) = (cmp b a = false)) :
    Cc 266 0 [vR 96 0, vI but, vI sg] σ = some (some (vI (oI (am P (fun b l => cmp (wth R (see R fl (f b))) (wth R (see R fl (f l)))) (nL R)))), σ) := by
  have hbb := h.b
  rw [c_M_oneBy]
  have hl := lpU (V := fun j => Vv 266 0 5 [some (vR 96 0), some (vI but), some (vI sg), some (vI (oI (am P (fun b l => cmp (wth R (see R fl (f b))) (wth R (see R fl (f l)))) j))), some (vI (nI j))] [] σ) (n := nL R) (fun j hj => by
    show Vv _ _ _ _ _ _ = Vv _ _ _ _ _ _
    rw [v_M_oneBy_5, s_men, cI_s, h.L, if_pos (nI_lt hj (by omega)), nI_1]
    have e1 : am P (fun b l => cmp (wth R (see R fl (f b))) (wth R (see R fl (f l)))) (j + 1) = (match am P (fun b l => cmp (wth R (see R fl (f b))) (wth R (see R fl (f l)))) j with
      | none => cond (P j) (some j) none
      | some b => cond (P j && cmp (wth R (see R fl (f b))) (wth R (see R fl (f j)))) (some j) (some b)) := rfl
    rw [e1]
    cases hp : P j
    · rw [if_pos (by rw [hP j hj]; exact hp)]
      cases am P (fun b l => cmp (wth R (see R fl (f b))) (wth R (see R fl (f l)))) j <;> rfl
    · rw [if_neg (by rw [hP j hj, hp]; decide)]
      cases hq : am P (fun b l => cmp (wth R (see R fl (f b))) (wth R (see R fl (f l)))) j with
      | none =>
        show (if (-1 : Int32) = -1 then _ else _) = _
        rw [if_pos rfl]
        rfl
      | some b =>
        have hb := (am_in hq).1
        show (if nI b = -1 then _ else _) = _
        rw [if_neg (nn1 (by omega)), ix_nI (by omega) (by omega), hn j hj, s_placeW h hs (hv.1 j hj), cI_s]
        show ix (nI b) 6 _ = _
        rw [ix_nI (by omega) (by omega), hn b (by omega), s_placeW h hs (hv.1 b (by omega)), cI_s]
        have hw1 := wth_le h.1 (see R fl (f j))
        have hw2 := wth_le h.1 (see R fl (f b))
        dsimp only
        cases hz : cmp (wth R (see R fl (f b))) (wth R (see R fl (f j)))
        · rw [if_pos (by rw [hc _ _ hw1 hw2]; exact hz)]
          rfl
        · rw [if_neg (by rw [hc _ _ hw1 hw2, hz]; decide)]
          rfl)
  refine Eq.trans hl ?_
  show Vv _ _ _ _ _ _ = _
  rw [v_M_oneBy_5, s_men, cI_s, h.L, if_neg (nI_nlt (Nat.le_refl _) (by omega))]
theorem sg_1 {a b : Nat} (ha : a ≤ 693) (hb : b ≤ 693) : ((1 : Int32) * nI a ≤ (1 : Int32) * nI b) = (decide (b < a) = false) := by
  rw [show (1 : Int32) * nI a = nI (1 * a) from pk_mul 1 a, show (1 : Int32) * nI b = nI (1 * b) from pk_mul 1 b, Nat.one_mul, Nat.one_mul]
  apply propext
  rw [nI_leI (by omega) (by omega), decide_eq_false_iff_not]
  omega
theorem sg_m {a b : Nat} (ha : a ≤ 693) (hb : b ≤ 693) : ((-1 : Int32) * nI a ≤ (-1 : Int32) * nI b) = (decide (a < b) = false) := by
  have e : ∀ c : Nat, c ≤ 693 → ((-1 : Int32) * nI c).toInt = -(c : Int) := fun c hc => by
    have h1 : (nI c).toInt = (c : Int) := nI_toInt (by omega)
    have h0 : (-1 : Int32).toInt = -1 := rfl
    rw [i_mul32 (A := 1) (B := 693) (by omega) (by omega) (by omega), h1, h0]
    omega
  apply propext
  rw [Int32.le_iff_toInt_le, e a ha, e b hb, decide_eq_false_iff_not]
  omega
theorem s_changes {σ : St} {R : RF} (h : H0 σ R) {fl : Nat → Bool} (hs : SE σ R fl) {f : Nat → Nat} (hn : NH σ R f) (hv : VP R f) : Cc 267 0 [vR 96 0] σ = some (none, nwS σ (nL R) (mo2 R (see R fl) f)) := by
  have hbb := h.b
  rw [c_M_changes, s_oneBy h hs hn hv (-1) 1 (fun _ => true) (fun b a => decide (b < a)) (fun l hl => by rw [n_ne (by omega)]; simp) (fun a b ha hb => sg_1 ha hb), cI_s]
  unfold mo2
  cases hq : am (fun _ => true) (fun b l => decide (wth R (see R fl (f b)) < wth R (see R fl (f l)))) (nL R) with
  | none =>
    show (if (-1 : Int32) = -1 then _ else _) = _
    rw [if_pos rfl, if_pos rfl]
    show some (none, σ) = some (none, nwS σ (nL R) f)
    rw [nwS_id hn]
  | some a =>
    have ha := (am_in hq).1
    show (if nI a = -1 then _ else _) = _
    rw [if_neg (nn1 (by omega))]
    show cI (Cc _ _ [vR 96 0, vI (nI a), vI (-1)] σ) _ = _
    rw [s_oneBy h hs hn hv (nI a) (-1) (fun l => !decide (l = a)) (fun b c => decide (c < b)) (fun l hl => by
      apply propext
      rw [nI_eq (by omega) (by omega)]
      by_cases hz : l = a <;> simp [hz]) (fun c b hc hb => sg_m hc hb), cI_s]
    dsimp only
    cases hq2 : am (fun l => !decide (l = a)) (fun b l => decide (wth R (see R fl (f l)) < wth R (see R fl (f b)))) (nL R) with
    | none =>
      show (if (-1 : Int32) = -1 then _ else _) = _
      rw [if_pos rfl]
      show some (none, σ) = some (none, nwS σ (nL R) f)
      rw [nwS_id hn]
    | some b =>
      have hb := (am_in hq2).1
      show (if nI b = -1 then _ else _) = _
      rw [if_neg (nn1 (by omega))]
      show ix (nI a) 6 (fun k1 => ix (nI b) 6 (fun k2 => ix (nI a) 6 (fun k3 => ix (nI b) 6 (fun k4 => _)))) = _
      rw [ix_nI (by omega) (by omega), ix_nI (by omega) (by omega), ix_nI (by omega) (by omega), ix_nI (by omega) (by omega), hn a ha, hn b hb]
      have e1 : sI (sI σ 3505 0 a (nI (f b))) 3505 0 b (nI (f a)) = nwS σ (nL R) (sw f a b) := by
        have := nwS_s (σ := σ) (n := nL R) (F := f) (v := f b) ha
        rw [nwS_id hn] at this
        rw [this, nwS_s hb]
        rfl
      rw [e1]
theorem s_nextPlace {σ : St} {R : RF} (h : H0 σ R) {p : Nat} (hp : p < nP R) (S : Nat → Bool) : Cc 268 0 [vR 96 0, vI (nI p), vI (nI (bn S (nP R)))] σ = some (some (vI (nI (nx S (nP R) p))), σ) := by
  have hbb := h.b
  rw [c_M_nextPlace]
  have hl := lpF (V := fun k => Vv 268 0 2 [some (vR 96 0), some (vI (nI p)), some (vI (nI (bn S (nP R)))), some (vI (nI k))] [] σ) (P := fun k => S ((p + k) % nP R)) (r := fun k => some (some (vI (nI ((p + k) % nP R))), σ)) (nP R) 1 (fun k h1 h2 => by
    show Vv _ _ _ _ _ _ = _
    have hm : (p + k) % nP R < nP R := Nat.mod_lt _ (by omega)
    rw [v_M_nextPlace_2, s_places, cI_s, h.P, if_pos (nI_le (show k ≤ nP R by omega) (by omega)), cI_P h, if_neg (nI_ne0 (by omega) (by omega)), nI_add, pk_rem (by omega) (by omega) (by omega), s_isBit, cI_s, bit_in (by omega) hm, tv_ite, cI_P h, if_neg (nI_ne0 (by omega) (by omega)), pk_rem (by omega) (by omega) (by omega), nI_1])
  refine Eq.trans hl ?_
  have he : Vv 268 0 2 [some (vR 96 0), some (vI (nI p)), some (vI (nI (bn S (nP R)))), some (vI (nI (1 + nP R)))] [] σ = some (some (vI (nI p)), σ) := by
    rw [v_M_nextPlace_2, s_places, cI_s, h.P, if_neg (nI_ge (by omega) (by omega))]
  show cond _ _ (Vv _ _ _ _ _ _) = _
  rw [he]
  unfold nx
  cases decide (fr (fun k => S ((p + k) % nP R)) (nP R) 1 < 1 + nP R) <;> rfl
