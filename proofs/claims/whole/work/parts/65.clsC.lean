/-! THE CLASS: year by year -/
def RW (σ : St) (R : RF) (q : Nat) (f : Nat → Nat) : Prop := ∀ l, l < nL R → gI σ 3289 q l = nI (f l)
def rwS (σ : St) (q n : Nat) (F : Nat → Nat) : St := pI σ 3289 q (fun l => if l < n then nI (F l) else gI σ 3289 q l)
def rowS (q : Nat) (t i' _j : Nat) : Bool := Nat.beq t 3289 && Nat.beq i' q
theorem rowS_t (q j : Nat) : rowS q 3289 q j = true := by unfold rowS; simp
theorem rwS_g {σ : St} {q n l : Nat} {F : Nat → Nat} (h : l < n) : gI (rwS σ q n F) 3289 q l = nI (F l) := by
  unfold rwS
  rw [gI_pIs, if_pos h]
theorem rwS_F {σ : St} {q n : Nat} {F : Nat → Nat} : Fr (rowS q) σ (rwS σ q n F) := Fr.rf.pI (fun j => rowS_t q j)
theorem rwS_o {σ : St} {q n : Nat} {F : Nat → Nat} {t i j : Nat} (h : t ≠ 3289) : gI (rwS σ q n F) t i j = gI σ t i j := gI_pIn h
theorem rwS_c {σ : St} {q n : Nat} {F G : Nat → Nat} (h : ∀ l, l < n → F l = G l) : rwS σ q n F = rwS σ q n G := by
  unfold rwS
  congr 1
  funext l
  by_cases hq : l < n
  · rw [if_pos hq, if_pos hq, h l hq]
  · rw [if_neg hq, if_neg hq]
theorem rwS_s {σ : St} {q n j v : Nat} {F : Nat → Nat} (h : j < n) : sI (rwS σ q n F) 3289 q j (nI v) = rwS σ q n (fun l => if l = j then v else F l) := by
  unfold rwS
  rw [sI_pI]
  congr 1
  funext l
  unfold upd
  by_cases hq : l = j
  · try dsimp only
    rw [if_pos hq, if_pos (by omega), if_pos hq]
  · try dsimp only
    rw [if_neg hq, if_neg hq]
theorem rwS_id {σ : St} {R : RF} {q : Nat} {f : Nat → Nat} (h : RW σ R q f) : rwS σ q (nL R) f = σ := by
  unfold rwS
  have : (fun l => if l < nL R then nI (f l) else gI σ 3289 q l) = gI σ 3289 q := by
    funext l
    by_cases hq : l < nL R
    · rw [if_pos hq, h l hq]
    · rw [if_neg hq]
  rw [this, pI_id]
theorem rwS_RW {σ : St} {R : RF} {q : Nat} {f : Nat → Nat} : RW (rwS σ q (nL R) f) R q f := fun _ hl => rwS_g hl
theorem K0.ro {σ σ' : St} {R : RF} {q : Nat} (h : K0 σ R) (hf : Fr (rowS q) σ σ') : K0 σ' R := h.fr hf (fun _ => ⟨rfl, fun _ _ => ⟨rfl, rfl, rfl⟩, rfl, rfl, rfl, rfl, rfl⟩)
theorem SC.ro {σ σ' : St} {R : RF} {q i : Nat} {fl : Nat → Bool} (h : SC σ i R fl) (hf : Fr (rowS q) σ σ') : SC σ' i R fl := fun p hp => ⟨(hf.i rfl).trans (h p hp).1, (hf.i rfl).trans (h p hp).2⟩
theorem six_o : Int32.ofNat 6 = (6 : Int32) := rfl
theorem k_exchange {σ : St} {R : RF} (h : K0 σ R) {q : Nat} {f : Nat → Nat} (hr : RW σ R q f) {a b : Nat} (ha : a < nL R) (hb : b < nL R) : Cc 6 0 [vR 3289 q, vI (nI a), vI (nI b)] σ = some (none, rwS σ q (nL R) (sw f a b)) := by
  have hbb := h.b
  rw [c_Acts_exchange, six_o, if_neg (nI_pos (by omega)), if_pos (lt6 (by omega)), if_neg (nI_pos (by omega)), if_pos (lt6 (by omega)), ix_nI (by omega) (by omega), ix_nI (by omega) (by omega), ix_nI (by omega) (by omega), ix_nI (by omega) (by omega), hr a ha, hr b hb]
  have := rwS_s (σ := σ) (q := q) (n := nL R) (F := f) (v := f b) ha
  rw [rwS_id hr] at this
  rw [this, rwS_s hb]
  rfl
theorem k_exchangeN1 (σ : St) (q : Nat) (b : Int32) : Cc 6 0 [vR 3289 q, vI (-1), vI b] σ = some (none, σ) := by
  rw [c_Acts_exchange, if_pos (by decide)]
theorem k_exchangeN2 (σ : St) (q : Nat) {a : Nat} (ha : a < 6) : Cc 6 0 [vR 3289 q, vI (nI a), vI (-1)] σ = some (none, σ) := by
  rw [c_Acts_exchange, six_o, if_neg (nI_pos (by omega)), if_pos (lt6 ha), if_pos (by decide)]
theorem k_exchangeInA {σ : St} {R : RF} (h : K0 σ R) {q : Nat} {f : Nat → Nat} (hr : RW σ R q f) {y : Nat} (hy : y < 2 ^ 31) : Cc 5 0 [vR 0 0, vI (nI y), vR 3289 q] σ = some (none, rwS σ q (nL R) (exc R y f)) := by
  have hbb := h.b
  rw [c_Acts_exchangeIn]
  have hl := lpU (V := fun j => Vv 5 0 2 [some (vR 0 0), some (vI (nI y)), some (vR 3289 q), some (vI (nI j))] [] (rwS σ q (nL R) (exn R y f j))) (n := nA R) (fun j hj => by
    show Vv _ _ _ _ _ _ = Vv _ _ _ _ _ _
    have hK : K0 (rwS σ q (nL R) (exn R y f j)) R := h.ro rwS_F
    have ha := hK.ac hj
    have hw := h.1.2.2.2.2.2.2.2.2 j hj
    rw [v_Acts_exchangeIn_2, hK.A, if_pos (nI_lt hj (by omega)), ix_nI (by omega) (by omega), nI_1]
    by_cases hk : ak R j = 1
    · have e1 : exn R y f (j + 1) = exn R y f j := by
        show cond (!decide (ak R j = 1) && decide (ay R j = y)) _ _ = _
        rw [decide_eq_true hk]; rfl
      rw [ha.2.1 hk, if_neg (fun z => nn1 hy z.symm), e1]
    · have hw := hw.2 hk
      rw [(ha.2.2 hk).2, ix_nI (by omega) (by omega), ix_nI (by omega) (by omega), ha.1, (ha.2.2 hk).1]
      by_cases hyy : ay R j = y
      · have e1 : exn R y f (j + 1) = sw (exn R y f j) (aa R j) (ab R j) := by
          show cond (!decide (ak R j = 1) && decide (ay R j = y)) _ _ = _
          rw [decide_eq_false hk, decide_eq_true hyy]; rfl
        rw [if_pos (by rw [hyy]), k_exchange hK rwS_RW hw.1 hw.2.1, cV_s, e1]
        unfold rwS
        rw [pI_pI]
        congr 3
        funext l
        rw [gI_pIs]
        split <;> rfl
      · have e1 : exn R y f (j + 1) = exn R y f j := by
          show cond (!decide (ak R j = 1) && decide (ay R j = y)) _ _ = _
          rw [decide_eq_false hyy, Bool.and_false]; rfl
        rw [if_neg (fun z => hyy ((nI_eq (by omega) hy).mp z)), e1])
  have hl : Vv 5 0 2 [some (vR 0 0), some (vI (nI y)), some (vR 3289 q), some (vI (nI 0))] [] (rwS σ q (nL R) f) = Vv 5 0 2 [some (vR 0 0), some (vI (nI y)), some (vR 3289 q), some (vI (nI (nA R)))] [] (rwS σ q (nL R) (exc R y f)) := hl
  rw [rwS_id hr] at hl
  refine Eq.trans hl ?_
  have hK : K0 (rwS σ q (nL R) (exc R y f)) R := h.ro rwS_F
  rw [v_Acts_exchangeIn_2, hK.A, if_neg (nI_nlt (Nat.le_refl _) (by omega))]
theorem k_isRow (σ : St) {y : Nat} (hy : y ≤ 12) : Cc 29 0 [vI (nI y)] σ = some (some (vI (tv true)), σ) := by
  have e : nI y ≤ (12 : Int32) := nI_le (b := 12) hy (by omega)
  rw [c_Course_isRowOfSpots, if_neg (nI_pos (by omega)), if_pos e, retZ_1]
theorem k_exchangeIn {σ : St} {R : RF} (h : K0 σ R) {i y : Nat} {f : Nat → Nat} (hr : RW σ R (13 * i + y) f) (hy : y ≤ 12) : Cc 26 0 [vR 24 i, vI (nI y)] σ = some (none, rwS σ (13 * i + y) (nL R) (exc R y f)) := by
  rw [c_Course_exchangeIn, k_isRow σ hy, cI_s, tv_ite, cond_true, ix_nI (by omega) (by omega), k_exchangeInA h hr (by omega), cV_s]
theorem k_stayOn {σ : St} {R : RF} (h : K0 σ R) {i y : Nat} {f : Nat → Nat} (hr : RW σ R (13 * i + y) f) (hy : y < 12) : ∃ σ', Cc 27 0 [vR 24 i, vI (nI y)] σ = some (none, σ') ∧ Fr (rowS (13 * i + (y + 1))) σ σ' ∧ RW σ' R (13 * i + (y + 1)) f := by
  have hbb := h.b
  rw [c_Course_stayOn, k_isRow σ (by omega), cI_s, tv_ite, cond_true, nI_1, k_isRow σ (by omega), cI_s, tv_ite, cond_true, ix_nI (by omega) (by omega), ix_nI (by omega) (by omega), if_pos (by decide)]
  refine ⟨_, rfl, fun t i' j' hq => ⟨?_, rfl⟩, fun l hl => ?_⟩
  · rw [gI_cpI, if_neg]
    rintro ⟨rfl, rfl, -⟩
    rw [rowS_t] at hq
    cases hq
  · rw [gI_cpI, if_pos ⟨rfl, rfl, Nat.zero_le _, show l < 0 + 6 by omega⟩, show (Int32.toNatClampNeg 0) = 0 from rfl, Nat.zero_add, Nat.sub_zero]
    exact hr l hl
/-- each goes who is of G, to the next of S -/
theorem k_goOn {σ : St} {R : RF} (h : K0 σ R) (i : Nat) {q : Nat} {f : Nat → Nat} (hr : RW σ R q f) (hv : VP R f) (G S : Nat → Bool) : Cc 30 0 [vR 24 i, vR 3289 q, vI (nI (bn G (nL R))), vI (nI (bn S (nP R)))] σ = some (none, rwS σ q (nL R) (fun l => cond (G l) (nx S (nP R) (f l)) (f l))) := by
  have hbb := h.b
  rw [c_Course_goOn]
  have hl := lpU (V := fun j => Vv 30 0 3 [some (vR 24 i), some (vR 3289 q), some (vI (nI (bn G (nL R)))), some (vI (nI (bn S (nP R)))), some (vI (nI j))] [] (rwS σ q (nL R) (fun l => if l < j then cond (G l) (nx S (nP R) (f l)) (f l) else f l))) (n := nL R) (fun j hj => by
    show Vv _ _ _ _ _ _ = Vv _ _ _ _ _ _
    have hK : K0 (rwS σ q (nL R) (fun l => if l < j then cond (G l) (nx S (nP R) (f l)) (f l) else f l)) R := h.ro rwS_F
    have hgj : gI (rwS σ q (nL R) (fun l => if l < j then cond (G l) (nx S (nP R) (f l)) (f l) else f l)) 3289 q j = nI (f j) := by
      rw [rwS_g hj]
      try dsimp only
      rw [if_neg (by omega)]
    rw [v_Course_goOn_3, hK.prL.1, if_pos (nI_lt hj (by omega)), bit_ne, bit_in (by omega) hj, ix_nI (by omega) (by omega), hgj, k_nextIn hK (hv.1 j hj), cI_s, ix_nI (by omega) (by omega), rwS_s hj, nI_1]
    cases hG : G j
    · rw [cond_false]
      refine congrArg (Vv _ _ _ _ _) (rwS_c (fun l _ => ?_))
      try dsimp only
      by_cases hlj : l = j
      · rw [if_neg (by omega), if_pos (by omega), hlj, hG]; rfl
      · by_cases hl2 : l < j
        · rw [if_pos hl2, if_pos (by omega)]
        · rw [if_neg hl2, if_neg (by omega)]
    · rw [cond_true]
      refine congrArg (Vv _ _ _ _ _) (rwS_c (fun l _ => ?_))
      try dsimp only
      by_cases hlj : l = j
      · rw [if_pos hlj, if_pos (by omega), hlj, hG]; rfl
      · rw [if_neg hlj]
        by_cases hl2 : l < j
        · rw [if_pos hl2, if_pos (by omega)]
        · rw [if_neg hl2, if_neg (by omega)])
  have h0 : rwS σ q (nL R) (fun l => if l < 0 then cond (G l) (nx S (nP R) (f l)) (f l) else f l) = σ := (rwS_c (fun l _ => by (try dsimp only); rw [if_neg (by omega)])).trans (rwS_id hr)
  have hl : Vv 30 0 3 [some (vR 24 i), some (vR 3289 q), some (vI (nI (bn G (nL R)))), some (vI (nI (bn S (nP R)))), some (vI (nI 0))] [] (rwS σ q (nL R) (fun l => if l < 0 then cond (G l) (nx S (nP R) (f l)) (f l) else f l)) = Vv 30 0 3 [some (vR 24 i), some (vR 3289 q), some (vI (nI (bn G (nL R)))), some (vI (nI (bn S (nP R)))), some (vI (nI (nL R)))] [] (rwS σ q (nL R) (fun l => if l < nL R then cond (G l) (nx S (nP R) (f l)) (f l) else f l)) := hl
  rw [h0] at hl
  refine Eq.trans hl ?_
  have hK : K0 (rwS σ q (nL R) (fun l => if l < nL R then cond (G l) (nx S (nP R) (f l)) (f l) else f l)) R := h.ro rwS_F
  rw [v_Course_goOn_3, hK.prL.1, if_neg (nI_nlt (Nat.le_refl _) (by omega)), rwS_c (G := fun l => cond (G l) (nx S (nP R) (f l)) (f l)) (fun l hl => by (try dsimp only); rw [if_pos hl])]
theorem back_dec : ∀ n, n < 7 → ∀ a, a < n → (a + n - 1) % n = if a = 0 then n - 1 else a - 1 := by decide
theorem k_goBack {σ : St} {R : RF} (h : K0 σ R) (i : Nat) {q : Nat} {f : Nat → Nat} (hr : RW σ R q f) (hv : VP R f) : Cc 31 0 [vR 24 i, vR 3289 q] σ = some (none, rwS σ q (nL R) (fun l => (f l + nP R - 1) % nP R)) := by
  have hbb := h.b
  rw [c_Course_goBack]
  have hl := lpU (V := fun j => Vv 31 0 2 [some (vR 24 i), some (vR 3289 q), some (vI (nI j))] [] (rwS σ q (nL R) (fun l => if l < j then (f l + nP R - 1) % nP R else f l))) (n := nL R) (fun j hj => by
    show Vv _ _ _ _ _ _ = Vv _ _ _ _ _ _
    have hK : K0 (rwS σ q (nL R) (fun l => if l < j then (f l + nP R - 1) % nP R else f l)) R := h.ro rwS_F
    have hfj := hv.1 j hj
    have hbd := back_dec (nP R) (by omega) (f j) hfj
    have hgj : gI (rwS σ q (nL R) (fun l => if l < j then (f l + nP R - 1) % nP R else f l)) 3289 q j = nI (f j) := by
      rw [rwS_g hj]
      try dsimp only
      rw [if_neg (by omega)]
    have hst : ∀ v, v = (f j + nP R - 1) % nP R → sI (rwS σ q (nL R) (fun l => if l < j then (f l + nP R - 1) % nP R else f l)) 3289 q j (nI v) = rwS σ q (nL R) (fun l => if l < j + 1 then (f l + nP R - 1) % nP R else f l) := fun v hv => by
      rw [rwS_s hj]
      refine rwS_c (fun l _ => ?_)
      try dsimp only
      by_cases hlj : l = j
      · rw [if_pos hlj, if_pos (by omega), hv, hlj]
      · rw [if_neg hlj]
        by_cases hl2 : l < j
        · rw [if_pos hl2, if_pos (by omega)]
        · rw [if_neg hl2, if_neg (by omega)]
    rw [v_Course_goBack_2, hK.prL.1, if_pos (nI_lt hj (by omega)), ix_nI (by omega) (by omega), hgj, ix_nI (by omega) (by omega), ix_nI (by omega) (by omega), ix_nI (by omega) (by omega), hgj, hK.prP.1, nI_1]
    by_cases h0 : f j = 0
    · rw [if_pos h0] at hbd
      have e1 : nI (nP R) - 1 = nI (nP R - 1) := pk_sub (b := 1) (by omega)
      rw [if_pos (by rw [h0]; decide), e1, hst _ hbd.symm]
    · rw [if_neg h0] at hbd
      have e1 : nI (f j) - 1 = nI (f j - 1) := pk_sub (b := 1) (by omega)
      rw [if_neg (nI_nle (by omega) (by omega)), e1, hst _ hbd.symm])
  have h0 : rwS σ q (nL R) (fun l => if l < 0 then (f l + nP R - 1) % nP R else f l) = σ := (rwS_c (fun l _ => by (try dsimp only); rw [if_neg (by omega)])).trans (rwS_id hr)
  have hl : Vv 31 0 2 [some (vR 24 i), some (vR 3289 q), some (vI (nI 0))] [] (rwS σ q (nL R) (fun l => if l < 0 then (f l + nP R - 1) % nP R else f l)) = Vv 31 0 2 [some (vR 24 i), some (vR 3289 q), some (vI (nI (nL R)))] [] (rwS σ q (nL R) (fun l => if l < nL R then (f l + nP R - 1) % nP R else f l)) := hl
  rw [h0] at hl
  refine Eq.trans hl ?_
  have hK : K0 (rwS σ q (nL R) (fun l => if l < nL R then (f l + nP R - 1) % nP R else f l)) R := h.ro rwS_F
  rw [v_Course_goBack_2, hK.prL.1, if_neg (nI_nlt (Nat.le_refl _) (by omega)), rwS_c (G := fun l => (f l + nP R - 1) % nP R) (fun l hl => by (try dsimp only); rw [if_pos hl])]
