/-! THE CLASS: moves by a law, runs -/
theorem le_lt {a b : Nat} (ha : a < 2 ^ 31) (hb : b < 2 ^ 31) {β : Type} (x y : β) : (if nI a ≤ nI b then x else y) = cond (decide (b < a)) y x := by
  by_cases h : b < a
  · rw [if_neg (nI_ge h ha), decide_eq_true h]; rfl
  · rw [if_pos (nI_le (by omega) hb), decide_eq_false h]; rfl
theorem lt_c {a b : Nat} (ha : a < 2 ^ 31) (hb : b < 2 ^ 31) {β : Type} (x y : β) : (if nI a < nI b then x else y) = cond (decide (a < b)) x y := by
  by_cases h : a < b
  · rw [if_pos (nI_lt h hb), decide_eq_true h]; rfl
  · rw [if_neg (nI_nlt (by omega) ha), decide_eq_false h]; rfl
theorem eq_c {a b : Nat} (ha : a < 2 ^ 31) (hb : b < 2 ^ 31) {β : Type} (x y : β) : (if nI a = nI b then x else y) = cond (decide (a = b)) x y := by
  by_cases h : a = b
  · rw [if_pos (by rw [h]), decide_eq_true h]; rfl
  · rw [if_neg (fun z => h ((nI_eq ha hb).mp z)), decide_eq_false h]; rfl
theorem k_change {σ : St} {R : RF} (h : K0 σ R) (i : Nat) {fl : Nat → Bool} (hs : SC σ (i / 2) R fl) {q : Nat} {f : Nat → Nat} (hr : RW σ R q f) (hv : VP R f) : Cc 32 0 [vR 24 i, vR 3289 q] σ = some (none, rwS σ q (nL R) (mo2 R (see R fl) f)) := by
  have hbb := h.b
  rw [c_Course_changeMostAndLeast]
  have hl1 := lpA (V := fun x j => Vv 32 0 4 [some (vR 24 i), some (vR 3289 q), some (vI x), some (vI (nI j)), none] [] σ) (lt := fun b l => decide (wth R (see R fl (f b)) < wth R (see R fl (f l)))) (n := nL R) (fun j hj => by
    show Vv _ _ _ _ _ _ = Vv _ _ _ _ _ _
    rw [v_Course_changeMostAndLeast_4, h.prL.1, if_pos (nI_lt hj (by omega)), if_pos rfl, nI_1]) (fun j b hj hb => by
    show Vv _ _ _ _ _ _ = cond _ (Vv _ _ _ _ _ _) (Vv _ _ _ _ _ _)
    have w1 := wth_le h.1 (see R fl (f j))
    have w2 := wth_le h.1 (see R fl (f b))
    rw [v_Course_changeMostAndLeast_4, h.prL.1, if_pos (nI_lt hj (by omega)), if_neg (nn1 (by omega)), ix_nI (by omega) (by omega), hr j hj, k_worthFrom h hs (hv.1 j hj), cI_s, ix_nI (by omega) (by omega), hr b (by omega), k_worthFrom h hs (hv.1 b (by omega)), cI_s, nI_1, le_lt (by omega) (by omega)])
  refine Eq.trans hl1 ?_
  show Vv _ _ _ _ _ _ = _
  rw [v_Course_changeMostAndLeast_4, h.prL.1, if_neg (nI_nlt (Nat.le_refl _) (by omega))]
  unfold mo2
  cases hq : am (fun _ => true) (fun b l => decide (wth R (see R fl (f b)) < wth R (see R fl (f l)))) (nL R) with
  | none =>
    have h0 : nL R = 0 := by
      cases hz : nL R with
      | zero => rfl
      | succ n =>
        rw [hz, am_s] at hq
        exfalso
        revert hq
        cases am (fun _ => true) (fun b l => decide (wth R (see R fl (f b)) < wth R (see R fl (f l)))) n with
        | none => intro hq; cases hq
        | some c =>
          show cond (true && decide (wth R (see R fl (f c)) < wth R (see R fl (f n)))) (some n) (some c) = none → False
          cases (true && decide (wth R (see R fl (f c)) < wth R (see R fl (f n)))) <;> (intro hq; cases hq)
    show Vv 32 0 59 [some (vR 24 i), some (vR 3289 q), some (vI (-1)), some (vI (-1)), some (vI (nI 0))] [] σ = some (none, rwS σ q (nL R) f)
    rw [v_Course_changeMostAndLeast_59, h.prL.1, h0, if_neg (by decide), k_exchangeN1, cV_s]
    have := rwS_id hr
    rw [h0] at this
    rw [this]
  | some a =>
    have ha := (am_in hq).1
    have hl2 := lpU (V := fun j => Vv 32 0 59 [some (vR 24 i), some (vR 3289 q), some (vI (nI a)), some (vI (oI (am (fun l => !decide (l = a)) (fun b l => decide (wth R (see R fl (f l)) < wth R (see R fl (f b)))) j))), some (vI (nI j))] [] σ) (n := nL R) (fun j hj => by
      show Vv _ _ _ _ _ _ = Vv _ _ _ _ _ _
      rw [v_Course_changeMostAndLeast_59, h.prL.1, if_pos (nI_lt hj (by omega)), eq_c (by omega) (by omega), nI_1, am_s]
      by_cases hja : j = a
      · rw [decide_eq_true hja]
        cases am (fun l => !decide (l = a)) (fun b l => decide (wth R (see R fl (f l)) < wth R (see R fl (f b)))) j <;> rfl
      · rw [decide_eq_false hja, cond_false]
        cases hq2 : am (fun l => !decide (l = a)) (fun b l => decide (wth R (see R fl (f l)) < wth R (see R fl (f b)))) j with
        | none =>
          show (if (-1 : Int32) = -1 then _ else _) = _
          rw [if_pos rfl]
          rfl
        | some b =>
          have hb := (am_in hq2).1
          have w1 := wth_le h.1 (see R fl (f j))
          have w2 := wth_le h.1 (see R fl (f b))
          show (if nI b = -1 then _ else _) = _
          rw [if_neg (nn1 (by omega)), ix_nI (by omega) (by omega), hr j hj, k_worthFrom h hs (hv.1 j hj), cI_s]
          show ix (nI b) 6 _ = _
          rw [ix_nI (by omega) (by omega), hr b (by omega), k_worthFrom h hs (hv.1 b (by omega)), cI_s, lt_c (by omega) (by omega)]
          show _ = Vv 32 0 59 [some (vR 24 i), some (vR 3289 q), some (vI (nI a)), some (vI (oI (cond (true && decide (wth R (see R fl (f j)) < wth R (see R fl (f b)))) (some j) (some b)))), some (vI (nI (j + 1)))] [] σ
          cases decide (wth R (see R fl (f j)) < wth R (see R fl (f b))) <;> rfl)
    have hl2 : Vv 32 0 59 [some (vR 24 i), some (vR 3289 q), some (vI (nI a)), some (vI (-1)), some (vI 0)] [] σ = Vv 32 0 59 [some (vR 24 i), some (vR 3289 q), some (vI (nI a)), some (vI (oI (am (fun l => !decide (l = a)) (fun b l => decide (wth R (see R fl (f l)) < wth R (see R fl (f b)))) (nL R)))), some (vI (nI (nL R)))] [] σ := hl2
    refine Eq.trans hl2 ?_
    rw [v_Course_changeMostAndLeast_59, h.prL.1, if_neg (nI_nlt (Nat.le_refl _) (by omega))]
    dsimp only
    cases hq2 : am (fun l => !decide (l = a)) (fun b l => decide (wth R (see R fl (f l)) < wth R (see R fl (f b)))) (nL R) with
    | none =>
      show cV (Cc _ _ [vR 3289 q, vI (nI a), vI (-1)] σ) _ = some (none, rwS σ q (nL R) f)
      rw [k_exchangeN2 σ q (by omega), cV_s, rwS_id hr]
    | some b =>
      show cV (Cc _ _ [vR 3289 q, vI (nI a), vI (nI b)] σ) _ = some (none, rwS σ q (nL R) (sw f a b))
      rw [k_exchange h hr ha (am_in hq2).1, cV_s]
theorem k_unhappy {σ : St} {R : RF} (h : K0 σ R) (i : Nat) {fl : Nat → Bool} (hs : SC σ (i / 2) R fl) {q : Nat} {f : Nat → Nat} (hr : RW σ R q f) (hv : VP R f) : Cc 33 0 [vR 24 i, vR 3289 q] σ = some (some (vI (nI (bn (un R (see R fl) f) (nL R)))), σ) := by
  have hbb := h.b
  rw [c_Course_unhappy]
  refine (lpB (V := fun x j => Vv 33 0 4 [some (vR 24 i), some (vR 3289 q), some (vI x), some (vI (nI j))] [] σ) (P := un R (see R fl) f) (n := nL R) (by omega) (fun j x hj => ?_)).trans ?_
  · show Vv _ _ _ _ _ _ = cond _ (Vv _ _ _ _ _ _) (Vv _ _ _ _ _ _)
    have hh := (h.1.2.2.2.2.2.2.1 j hj).2
    rw [v_Course_unhappy_4, h.prL.1, if_pos (nI_lt hj (by omega)), ix_nI (by omega) (by omega), k_lh h hj, cI_s, hr j hj, k_isSeen h hs (hv.1 j hj) hh, cI_s, tv_ite, nI_1]
    unfold un
    cases see R fl (f j) (lh R j) <;> rfl
  · show Vv _ _ _ _ _ _ = _
    rw [v_Course_unhappy_4, h.prL.1, if_neg (nI_nlt (Nat.le_refl _) (by omega))]
theorem k_placesOfRow {σ : St} {R : RF} (h : K0 σ R) (i : Nat) {q : Nat} {f : Nat → Nat} (hr : RW σ R q f) (hv : VP R f) (G : Nat → Bool) : Cc 34 0 [vR 24 i, vR 3289 q, vI (nI (bn G (nL R)))] σ = some (some (vI (nI (bn (fun p => ex (fun l => G l && decide (f l = p)) (nL R)) (nP R)))), σ) := by
  have hbb := h.b
  rw [c_Course_placesOf]
  have hl := lpU (V := fun j => Vv 34 0 5 [some (vR 24 i), some (vR 3289 q), some (vI (nI (bn G (nL R)))), some (vI (nI (bn (fun p => ex (fun l => G l && decide (f l = p)) j) (nP R)))), some (vI (nI j))] [] σ) (n := nL R) (fun j hj => by
    show Vv _ _ _ _ _ _ = Vv _ _ _ _ _ _
    rw [v_Course_placesOf_5, h.prL.1, if_pos (nI_lt hj (by omega)), bit_ne, bit_in (by omega) hj, ix_nI (by omega) (by omega), hr j hj, bn_orK (by omega) (hv.1 j hj), nI_1]
    cases hG : G j
    · rw [cond_false]
      refine congrArg (fun z => Vv 34 0 5 [some (vR 24 i), some (vR 3289 q), some (vI (nI (bn G (nL R)))), some (vI (nI z)), some (vI (nI (j + 1)))] [] σ) (bn_congr (fun p _ => ?_))
      rw [ex_succ, hG, Bool.false_and, Bool.or_false]
    · rw [cond_true]
      refine congrArg (fun z => Vv 34 0 5 [some (vR 24 i), some (vR 3289 q), some (vI (nI (bn G (nL R)))), some (vI (nI z)), some (vI (nI (j + 1)))] [] σ) (bn_congr (fun p _ => ?_))
      rw [ex_succ, hG, Bool.true_and]
      congr 1
      exact decide_eq_decide.mpr ⟨Eq.symm, Eq.symm⟩)
  have e0 : bn (fun p => ex (fun l => G l && decide (f l = p)) 0) (nP R) = 0 := bn_0.mpr (fun _ _ => rfl)
  have hl : Vv 34 0 5 [some (vR 24 i), some (vR 3289 q), some (vI (nI (bn G (nL R)))), some (vI (nI (bn (fun p => ex (fun l => G l && decide (f l = p)) 0) (nP R)))), some (vI (nI 0))] [] σ = Vv 34 0 5 [some (vR 24 i), some (vR 3289 q), some (vI (nI (bn G (nL R)))), some (vI (nI (bn (fun p => ex (fun l => G l && decide (f l = p)) (nL R)) (nP R)))), some (vI (nI (nL R)))] [] σ := hl
  rw [e0] at hl
  refine Eq.trans hl ?_
  rw [v_Course_placesOf_5, h.prL.1, if_neg (nI_nlt (Nat.le_refl _) (by omega))]
theorem k_moveOn {σ : St} {R : RF} (h : K0 σ R) {i : Nat} {fl : Nat → Bool} (hs : SC σ (i / 2) R fl) {y : Nat} {f : Nat → Nat} (hr : RW σ R (13 * i + y) f) (hv : VP R f) (hy : y < 12) {law : Nat} (hl3 : law ≤ 3) : ∃ σ', Cc 28 0 [vR 24 i, vI (nI y), vI (nI law)] σ = some (none, σ') ∧ Fr (rowS (13 * i + (y + 1))) σ σ' ∧ RW σ' R (13 * i + (y + 1)) (mv R (see R fl) law f) := by
  have hbb := h.b
  obtain ⟨σ1, c1, f1, r1⟩ := k_stayOn h hr hy
  have h1 := h.ro f1
  have s1 := hs.ro f1
  have hlt : (nI law).toInt = (law : Int) := nI_toInt (by omega)
  rw [c_Course_moveOn, c1, cV_s, nI_1, k_isRow σ1 (by omega), cI_s, tv_ite, cond_true, ix_nI (by omega) (by omega), hlt]
  have hcase : law = 0 ∨ law = 1 ∨ law = 2 ∨ law = 3 := by omega
  rcases hcase with rfl | rfl | rfl | rfl
  · rw [if_pos (by decide), k_all h1.prL (by omega), cI_s, k_all h1.prP (by omega), cI_s, k_goOn h1 i r1 hv, cV_s]
    exact ⟨_, rfl, f1.tr rwS_F, rwS_RW⟩
  · rw [if_neg (by decide), if_pos (by decide), k_goBack h1 i r1 hv, cV_s]
    exact ⟨_, rfl, f1.tr rwS_F, rwS_RW⟩
  · rw [if_neg (by decide), if_neg (by decide), if_pos (by decide), k_change h1 i s1 r1 hv, cV_s]
    exact ⟨_, rfl, f1.tr rwS_F, rwS_RW⟩
  · rw [if_neg (by decide), if_neg (by decide), if_neg (by decide), k_unhappy h1 i s1 r1 hv, cI_s, k_unhappy h1 i s1 r1 hv, cI_s, k_placesOfRow h1 i r1 hv, cI_s, k_goOn h1 i r1 hv, cV_s]
    exact ⟨_, rfl, f1.tr rwS_F, rwS_RW⟩
/-- the rows of a course -/
def crS (i : Nat) (t i' _j : Nat) : Bool := Nat.beq t 3289 && (Nat.ble (13 * i) i' && Nat.ble i' (13 * i + 12))
theorem cr_up {i q : Nat} (hq1 : 13 * i ≤ q) (hq2 : q ≤ 13 * i + 12) {σ σ' : St} (h : Fr (rowS q) σ σ') : Fr (crS i) σ σ' := h.up (fun t i' j' hz => by
  cases hw : rowS q t i' j'
  · rfl
  · unfold rowS at hw
    rw [Bool.and_eq_true] at hw
    unfold crS at hz
    rw [hw.1, Nat.eq_of_beq_eq_true hw.2, Nat.ble_eq.mpr hq1, Nat.ble_eq.mpr hq2] at hz
    cases hz)
theorem K0.cr {σ σ' : St} {R : RF} {i : Nat} (h : K0 σ R) (hf : Fr (crS i) σ σ') : K0 σ' R := h.fr hf (fun _ => ⟨rfl, fun _ _ => ⟨rfl, rfl, rfl⟩, rfl, rfl, rfl, rfl, rfl⟩)
theorem SC.cr {σ σ' : St} {R : RF} {i j : Nat} {fl : Nat → Bool} (h : SC σ j R fl) (hf : Fr (crS i) σ σ') : SC σ' j R fl := fun p hp => ⟨(hf.i rfl).trans (h p hp).1, (hf.i rfl).trans (h p hp).2⟩
theorem RW.o {σ σ' : St} {R : RF} {q q' : Nat} {f : Nat → Nat} (h : RW σ R q f) (hf : Fr (rowS q') σ σ') (hq : q ≠ q') : RW σ' R q f := fun l hl => (hf.i (by
  unfold rowS
  cases hz : Nat.beq q q'
  · rw [Bool.and_false]
  · exact absurd (Nat.eq_of_beq_eq_true hz) hq)).trans (h l hl)
/-- run() -/
theorem k_run {R : RF} {i : Nat} {fl : Nat → Bool} {law : Nat} (hl3 : law ≤ 3) {mvd : Int32} {mg : Nat → Bool} (hm : ∀ y, y < yr R → bit mvd (nI y) = mg y) {f : Nat → Nat} (hv : VP R f) : ∀ (k y : Nat) (σ : St), y + k = yr R → K0 σ R → SC σ (i / 2) R fl → (∀ z, z < y → RW σ R (13 * i + z) (ps R (see R fl) law mg f z)) → RW σ R (13 * i + y) (pb R (see R fl) law mg f y) → ∃ σ', Vv 25 0 2 [some (vR 24 i), some (vI (nI law)), some (vI mvd), some (vI (nI y))] [] σ = some (none, σ') ∧ Fr (crS i) σ σ' ∧ ∀ z, z ≤ yr R → RW σ' R (13 * i + z) (ps R (see R fl) law mg f z)
  | 0, y, σ, hk, h, hs, hr, hn => by
    have hbb := h.b
    have hy : y = yr R := by omega
    subst hy
    refine ⟨σ, by rw [v_Course_run_2, h.years, if_neg (nI_nlt (Nat.le_refl _) (by omega))], Fr.rf, fun z hz => ?_⟩
    by_cases hzy : z = yr R
    · subst hzy
      rw [← pb_ps, exc_last h.1 _ (Nat.le_refl _)]
      exact hn
    · exact hr z (by omega)
  | k + 1, y, σ, hk, h, hs, hr, hn => by
    have hbb := h.b
    have hy : y < yr R := by omega
    have e12 : nI y < (12 : Int32) := nI_lt (b := 12) (by omega) (by omega)
    have c1 := k_exchangeIn h hn (show y ≤ 12 by omega)
    rw [pb_ps] at c1
    have F1 : Fr (rowS (13 * i + y)) σ (rwS σ (13 * i + y) (nL R) (ps R (see R fl) law mg f y)) := rwS_F
    have h1 := h.ro F1
    have s1 := hs.ro F1
    have hvp := vp_ps h.1 hv (see R fl) law mg y
    have hstep : Vv 25 0 2 [some (vR 24 i), some (vI (nI law)), some (vI mvd), some (vI (nI y))] [] σ = cond (mg y) (cV (Cc 28 0 [vR 24 i, vI (nI y), vI (nI law)] (rwS σ (13 * i + y) (nL R) (ps R (see R fl) law mg f y))) (fun σ3 => Vv 25 0 2 [some (vR 24 i), some (vI (nI law)), some (vI mvd), some (vI (nI (y + 1)))] [] σ3)) (cV (Cc 27 0 [vR 24 i, vI (nI y)] (rwS σ (13 * i + y) (nL R) (ps R (see R fl) law mg f y))) (fun σ2 => Vv 25 0 2 [some (vR 24 i), some (vI (nI law)), some (vI mvd), some (vI (nI (y + 1)))] [] σ2)) := by
      rw [v_Course_run_2, h.years, if_pos (nI_lt hy (by omega)), if_pos e12, c1, cV_s, bit_ne, hm y hy, nI_1]
    have hpb : pb R (see R fl) law mg f (y + 1) = cond (mg y) (mv R (see R fl) law (ps R (see R fl) law mg f y)) (ps R (see R fl) law mg f y) := rfl
    cases hq : mg y
    · rw [hq, cond_false] at hstep hpb
      obtain ⟨σ2, c2, f2, r2⟩ := k_stayOn h1 (i := i) (y := y) rwS_RW (by omega)
      obtain ⟨σ3, c3, f3, r3⟩ := k_run hl3 hm hv k (y + 1) σ2 (by omega) (h1.ro f2) (s1.ro f2) (fun z hz => by
        by_cases hzy : z = y
        · subst hzy
          exact RW.o rwS_RW f2 (by omega)
        · exact ((hr z (by omega)).o F1 (by omega)).o f2 (by omega)) (by rw [hpb]; exact r2)
      exact ⟨σ3, by rw [hstep, c2, cV_s, c3], ((cr_up (by omega) (by omega) F1).tr (cr_up (by omega) (by omega) f2)).tr f3, r3⟩
    · rw [hq, cond_true] at hstep hpb
      obtain ⟨σ2, c2, f2, r2⟩ := k_moveOn h1 (i := i) s1 (y := y) rwS_RW hvp (by omega) hl3
      obtain ⟨σ3, c3, f3, r3⟩ := k_run hl3 hm hv k (y + 1) σ2 (by omega) (h1.ro f2) (s1.ro f2) (fun z hz => by
        by_cases hzy : z = y
        · subst hzy
          exact RW.o rwS_RW f2 (by omega)
        · exact ((hr z (by omega)).o F1 (by omega)).o f2 (by omega)) (by rw [hpb]; exact r2)
      exact ⟨σ3, by rw [hstep, c2, cV_s, c3], ((cr_up (by omega) (by omega) F1).tr (cr_up (by omega) (by omega) f2)).tr f3, r3⟩
theorem k_startAsTold {σ : St} {R : RF} (h : K0 σ R) (i : Nat) : Cc 23 0 [vR 24 i] σ = some (none, rwS σ (13 * i + 0) (nL R) (lp R)) := by
  have hbb := h.b
  rw [c_Course_startAsTold]
  have hl := lpU (V := fun j => Vv 23 0 2 [some (vR 24 i), some (vI (nI j))] [] (pI σ 3289 (13 * i + 0) (fun l => if l < j then nI (lp R l) else gI σ 3289 (13 * i + 0) l))) (n := nL R) (fun j hj => by
    show Vv _ _ _ _ _ _ = Vv _ _ _ _ _ _
    have hK : K0 (pI σ 3289 (13 * i + 0) (fun l => if l < j then nI (lp R l) else gI σ 3289 (13 * i + 0) l)) R := h.ro (q := 13 * i + 0) (Fr.rf.pI (fun j => rowS_t _ j))
    rw [v_Course_startAsTold_2, hK.prL.1, if_pos (nI_lt hj (by omega)), ix0 12, k_lp hK hj, cI_s, ix_nI (by omega) (by omega), sI_pI, nI_1]
    congr 2
    funext q
    unfold upd
    try dsimp only
    by_cases hq : q = j
    · rw [if_pos hq, if_pos (by omega), hq]
    · rw [if_neg hq]
      by_cases hq2 : q < j
      · rw [if_pos hq2, if_pos (by omega)]
      · rw [if_neg hq2, if_neg (by omega)])
  have e0 : pI σ 3289 (13 * i + 0) (fun l => if l < 0 then nI (lp R l) else gI σ 3289 (13 * i + 0) l) = σ := by
    have : (fun l => if l < 0 then nI (lp R l) else gI σ 3289 (13 * i + 0) l) = gI σ 3289 (13 * i + 0) := by
      funext q
      rw [if_neg (by omega)]
    rw [this, pI_id]
  have hl : Vv 23 0 2 [some (vR 24 i), some (vI (nI 0))] [] (pI σ 3289 (13 * i + 0) (fun l => if l < 0 then nI (lp R l) else gI σ 3289 (13 * i + 0) l)) = Vv 23 0 2 [some (vR 24 i), some (vI (nI (nL R)))] [] (rwS σ (13 * i + 0) (nL R) (lp R)) := hl
  rw [e0] at hl
  refine Eq.trans hl ?_
  have hK : K0 (rwS σ (13 * i + 0) (nL R) (lp R)) R := h.ro rwS_F
  rw [v_Course_startAsTold_2, hK.prL.1, if_neg (nI_nlt (Nat.le_refl _) (by omega))]
/-- startAsTold() and run() -/
theorem k_course {σ : St} {R : RF} (h : K0 σ R) {i : Nat} {fl : Nat → Bool} (hs : SC σ (i / 2) R fl) {law : Nat} (hl3 : law ≤ 3) {mvd : Int32} {mg : Nat → Bool} (hm : ∀ y, y < yr R → bit mvd (nI y) = mg y) : ∃ σ1 σ', Cc 23 0 [vR 24 i] σ = some (none, σ1) ∧ Cc 25 0 [vR 24 i, vI (nI law), vI mvd] σ1 = some (none, σ') ∧ Fr (crS i) σ σ1 ∧ Fr (crS i) σ σ' ∧ ∀ z, z ≤ yr R → RW σ' R (13 * i + z) (ps R (see R fl) law mg (lp R) z) := by
  have F1 : Fr (rowS (13 * i + 0)) σ (rwS σ (13 * i + 0) (nL R) (lp R)) := rwS_F
  obtain ⟨σ2, c2, f2, r2⟩ := k_run (R := R) (i := i) (fl := fl) hl3 hm (vp_told h.1) (yr R) 0 _ (by omega) (h.ro F1) (hs.ro F1) (fun z hz => by omega) rwS_RW
  refine ⟨_, σ2, k_startAsTold h i, ?_, cr_up (by omega) (by omega) F1, (cr_up (by omega) (by omega) F1).tr f2, r2⟩
  rw [c_Course_run]
  exact c2
