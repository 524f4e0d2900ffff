/-! THE CLASS: a course that has been run -/
def CV (σ : St) (i : Nat) (R : RF) (fl : Nat → Bool) (P : Nat → Nat → Nat) : Prop := K0 σ R ∧ SC σ (i / 2) R fl ∧ (∀ z, z ≤ yr R → RW σ R (13 * i + z) (P z)) ∧ ∀ y, VP R (P y)
theorem k_spot {σ : St} {i : Nat} {R : RF} {fl : Nat → Bool} {P : Nat → Nat → Nat} (v : CV σ i R fl P) {l y : Nat} (hl : l < nL R) (hy : y ≤ yr R) : Cc 35 0 [vR 24 i, vI (nI l), vI (nI y)] σ = some (some (vI (nI (P y l))), σ) := by
  have hbb := v.1.b
  have e12 : nI y ≤ (12 : Int32) := nI_le (b := 12) (by omega) (by omega)
  rw [c_Course_spot, if_neg (nI_pos (by omega)), if_pos e12, if_neg (nI_pos (by omega)), if_pos (lt6 (by omega)), if_neg (by decide), ix_nI (by omega) (by omega), ix_nI (by omega) (by omega), v.2.2.1 y hy l hl]
theorem k_isAlike {σ : St} {i : Nat} {R : RF} {fl : Nat → Bool} {P : Nat → Nat → Nat} (v : CV σ i R fl P) {y z : Nat} (hy : y ≤ yr R) (hz : z ≤ yr R) : Cc 36 0 [vR 24 i, vI (nI y), vI (nI z)] σ = some (some (vI (tv (!ex (fun l => !decide (P y l = P z l)) (nL R)))), σ) := by
  have hbb := v.1.b
  rw [c_Course_isAlike]
  refine lpZn (V := fun j => Vv 36 0 2 [some (vR 24 i), some (vI (nI y)), some (vI (nI z)), some (vI (nI j))] [] σ) (nL R) (fun j hj => ?_) ?_
  · show Vv _ _ _ _ _ _ = _
    have w1 := (v.2.2.2 y).1 j hj
    have w2 := (v.2.2.2 z).1 j hj
    rw [v_Course_isAlike_2, v.1.prL.1, if_pos (nI_lt hj (by omega)), k_spot v hj hy, cI_s, k_spot v hj hz, cI_s, nI_1, retZ_0, eq_c (by omega) (by omega)]
    cases decide (P y j = P z j) <;> rfl
  · show Vv _ _ _ _ _ _ = _
    rw [v_Course_isAlike_2, v.1.prL.1, if_neg (nI_nlt (Nat.le_refl _) (by omega)), retZ_1]
theorem k_marksSeen {σ : St} {i : Nat} {R : RF} {fl : Nat → Bool} {P : Nat → Nat → Nat} (v : CV σ i R fl P) {l y : Nat} (hl : l < nL R) (hy : y ≤ yr R) : Cc 37 0 [vR 24 i, vI (nI l), vI (nI y)] σ = some (some (vI (nI (bn (see R fl (P y l)) (nM R)))), σ) := by
  rw [c_Course_marksSeen, k_spot v hl hy, cI_s, k_marksFrom v.1 v.2.1 ((v.2.2.2 y).1 l hl), cI_s]
theorem k_seesHope {σ : St} {i : Nat} {R : RF} {fl : Nat → Bool} {P : Nat → Nat → Nat} (v : CV σ i R fl P) {l y : Nat} (hl : l < nL R) (hy : y ≤ yr R) : Cc 38 0 [vR 24 i, vI (nI l), vI (nI y)] σ = some (some (vI (tv (see R fl (P y l) (lh R l)))), σ) := by
  rw [c_Course_seesHope, k_spot v hl hy, cI_s, k_lh v.1 hl, cI_s, k_isSeen v.1 v.2.1 ((v.2.2.2 y).1 l hl) (v.1.1.2.2.2.2.2.2.1 l hl).2, cI_s, retZ_tv]
theorem k_firstGlad {σ : St} {i : Nat} {R : RF} {fl : Nat → Bool} {P : Nat → Nat → Nat} (v : CV σ i R fl P) {l : Nat} (hl : l < nL R) : Cc 39 0 [vR 24 i, vI (nI l)] σ = some (some (vI (fI (fun y => see R fl (P y l) (lh R l)) (yr R + 1))), σ) := by
  have hbb := v.1.b
  rw [c_Course_firstGladYear]
  refine lpI (V := fun j => Vv 39 0 2 [some (vR 24 i), some (vI (nI l)), some (vI (nI j))] [] σ) (yr R + 1) (fun j hj => ?_) ?_
  · show Vv _ _ _ _ _ _ = _
    rw [v_Course_firstGladYear_2, v.1.years, if_pos (nI_le (show j ≤ yr R by omega) (by omega)), k_seesHope v hl (by omega), cI_s, tv_ite, nI_1]
  · show Vv _ _ _ _ _ _ = _
    rw [v_Course_firstGladYear_2, v.1.years, if_neg (nI_ge (by omega) (by omega))]
theorem k_joyIn {σ : St} {i : Nat} {R : RF} {fl : Nat → Bool} {P : Nat → Nat → Nat} (v : CV σ i R fl P) {l y : Nat} (hl : l < nL R) (hy : y ≤ yr R) : Cc 40 0 [vR 24 i, vI (nI l), vI (nI y)] σ = some (some (vI (nI (jy R (see R fl) P l y))), σ) := by
  have hbb := v.1.b
  rw [c_Course_joyIn]
  cases y with
  | zero =>
    have hz : (0 : Int32) = nI (bn (fun _ => false) (nM R)) := by rw [bn_0.mpr (fun _ _ => rfl)]; rfl
    rw [if_pos (by decide), k_marksSeen v hl hy, cI_s, hz, bn_anot, k_worthOfSet v.1, cI_s]
    exact congrArg (fun z => some (some (vI (nI z)), σ)) (wth_congr (fun m _ => by simp))
  | succ y =>
    rw [if_neg (nI_nle (by omega) (by omega)), nI_pred, k_marksSeen v hl (by omega), cI_s, k_marksSeen v hl hy, cI_s, bn_anot, k_worthOfSet v.1, cI_s]
    rfl
theorem k_life {σ : St} {i : Nat} {R : RF} {fl : Nat → Bool} {P : Nat → Nat → Nat} (v : CV σ i R fl P) {l : Nat} (hl : l < nL R) : Cc 41 0 [vR 24 i, vI (nI l)] σ = some (some (vI (nI (life R (see R fl) P l))), σ) := by
  have hbb := v.1.b
  rw [c_Course_joyOfLife]
  refine (lpS (V := fun x j => Vv 41 0 4 [some (vR 24 i), some (vI (nI l)), some (vI x), some (vI (nI j))] [] σ) (f := jy R (see R fl) P l) (n := yr R + 1) (fun j x hj => ?_)).trans ?_
  · show Vv _ _ _ _ _ _ = Vv _ _ _ _ _ _
    rw [v_Course_joyOfLife_4, v.1.years, if_pos (nI_le (show j ≤ yr R by omega) (by omega)), k_joyIn v hl (by omega), cI_s, nI_1]
  · show Vv _ _ _ _ _ _ = _
    rw [v_Course_joyOfLife_4, v.1.years, if_neg (nI_ge (by omega) (by omega))]
    rfl
theorem k_joyY {σ : St} {i : Nat} {R : RF} {fl : Nat → Bool} {P : Nat → Nat → Nat} (v : CV σ i R fl P) {y : Nat} (hy : y ≤ yr R) : Cc 42 0 [vR 24 i, vI (nI y)] σ = some (some (vI (nI (joyY R (see R fl) P y))), σ) := by
  have hbb := v.1.b
  rw [c_Course_joyOfAllIn]
  refine (lpS (V := fun x j => Vv 42 0 4 [some (vR 24 i), some (vI (nI y)), some (vI x), some (vI (nI j))] [] σ) (f := fun l => jy R (see R fl) P l y) (n := nL R) (fun j x hj => ?_)).trans ?_
  · show Vv _ _ _ _ _ _ = Vv _ _ _ _ _ _
    rw [v_Course_joyOfAllIn_4, v.1.prL.1, if_pos (nI_lt hj (by omega)), k_joyIn v hj hy, cI_s, nI_1]
  · show Vv _ _ _ _ _ _ = _
    rw [v_Course_joyOfAllIn_4, v.1.prL.1, if_neg (nI_nlt (Nat.le_refl _) (by omega))]
    rfl
theorem k_joyA {σ : St} {i : Nat} {R : RF} {fl : Nat → Bool} {P : Nat → Nat → Nat} (v : CV σ i R fl P) : Cc 43 0 [vR 24 i] σ = some (some (vI (nI (joyA R (see R fl) P))), σ) := by
  have hbb := v.1.b
  rw [c_Course_joyOfAll]
  refine (lpS (V := fun x j => Vv 43 0 4 [some (vR 24 i), some (vI x), some (vI (nI j))] [] σ) (f := life R (see R fl) P) (n := nL R) (fun j x hj => ?_)).trans ?_
  · show Vv _ _ _ _ _ _ = Vv _ _ _ _ _ _
    rw [v_Course_joyOfAll_4, v.1.prL.1, if_pos (nI_lt hj (by omega)), k_life v hj, cI_s, nI_1]
  · show Vv _ _ _ _ _ _ = _
    rw [v_Course_joyOfAll_4, v.1.prL.1, if_neg (nI_nlt (Nat.le_refl _) (by omega))]
    rfl
/-! what is asked for -/
theorem h_isTold {σ : St} {R : RF} (h : K0 σ R) : Cc 70 0 [vR 48 0] σ = some (some (vI (tv (decide (0 < nN R)))), σ) := by
  have hbb := h.b
  have := le_lt (a := nN R) (b := 0) (by omega) (by omega) (retZ 0 σ) (retZ 1 σ)
  rw [q_0] at this
  rw [c_Roof_isTold, h.N, this, retZ_0, retZ_1]
  cases decide (0 < nN R) <;> rfl
theorem inB_if2 {β : Type} (a : Int32) {n : Nat} (hn : n < 2 ^ 30) (x y : β) : (if a < 0 then y else if a ≤ nI n then x else y) = cond (inB a (n + 1)) x y := by
  unfold inB
  simp only [lt0, le_nI a (show n < 2 ^ 31 by omega)]
  by_cases h1 : a.toInt < 0
  · rw [if_pos h1, decide_eq_false (by omega)]; rfl
  · rw [if_neg h1]
    by_cases h2 : a.toInt ≤ n
    · rw [if_pos h2, decide_eq_true (by omega)]; rfl
    · rw [if_neg h2, decide_eq_false (by omega)]; rfl
theorem h_hasYear {σ : St} {R : RF} (h : K0 σ R) (a : Int32) : Cc 71 0 [vR 48 0, vI a] σ = some (some (vI (tv (yB R a))), σ) := by
  have hbb := h.b
  rw [c_Roof_hasYear, h_isTold h, cI_s, tv_ite, h.years, inB_if2 a (by omega), retZ_0, retZ_1]
  unfold yB
  cases decide (0 < nN R) <;> cases inB a (yr R + 1) <;> rfl
theorem h_two (σ : St) (a : Int32) : Cc 184 0 [vI a] σ = some (some (vI (tv (inB a 2))), σ) := by
  rw [c_H_isOneOfTwo, retZ_0, retZ_1]
  cases hq : inB a 2
  · rw [if_neg (fun z => ?_), if_neg (fun z => ?_)]
    · subst z; cases hq
    · subst z; cases hq
  · rcases half_e hq with rfl | rfl
    · rw [if_pos q_0]
    · rw [if_neg (by decide), if_pos q_1]
theorem h_isSlot (σ : St) (a : Int32) : Cc 185 0 [vI a] σ = some (some (vI (tv (inB a 4))), σ) := by
  rw [c_H_isSlot, show (4 : Int32) = nI 4 from rfl, inB_if a (by omega), retZ_0, retZ_1]
  cases inB a 4 <;> rfl
theorem h_isLaw (σ : St) (a : Int32) : Cc 186 0 [vI a] σ = some (some (vI (tv (inB a 4))), σ) := by
  rw [c_H_isLaw, show (4 : Int32) = nI 4 from rfl, inB_if a (by omega), retZ_0, retZ_1]
  cases inB a 4 <;> rfl
theorem h_isSeed (σ : St) (a : Int32) : Cc 187 0 [vI a] σ = some (some (vI (tv (sdB a))), σ) := by
  have e : (if a < 0 then retZ 0 σ else if a ≤ (2000000000 : Int32) then retZ 1 σ else retZ 0 σ) = cond (inB a 2000000001) (retZ 1 σ) (retZ 0 σ) := by
    unfold inB
    have e1 : (a ≤ (2000000000 : Int32)) = (a.toInt ≤ 2000000000) := by
      rw [Int32.le_iff_toInt_le]; rfl
    simp only [lt0, e1]
    by_cases h1 : a.toInt < 0
    · rw [if_pos h1, decide_eq_false (by omega)]; rfl
    · rw [if_neg h1]
      by_cases h2 : a.toInt ≤ 2000000000
      · rw [if_pos h2, decide_eq_true (by omega)]; rfl
      · rw [if_neg h2, decide_eq_false (by omega)]; rfl
  rw [c_H_isSeed, e, retZ_0, retZ_1]
  unfold sdB
  cases inB a 2000000001 <;> rfl
theorem h_inYear {σ : St} {R : RF} (h : K0 σ R) (a b : Int32) : Cc 188 0 [vR 88 0, vI a, vI b] σ = some (some (vI (tv (inB a (nL R) && yB R b))), σ) := by
  have hbb := h.b
  rw [c_H_isLookerInYear, k_has h.prL (by omega), cI_s, tv_ite, h_hasYear h, cI_s, tv_ite, retZ_0, retZ_1]
  cases inB a (nL R) <;> cases yB R b <;> rfl
theorem h_areTwo {σ : St} {R : RF} (h : K0 σ R) (a b : Int32) : Cc 189 0 [vR 88 0, vI a, vI b] σ = some (some (vI (tv (twB R a b))), σ) := by
  have hbb := h.b
  rw [c_H_areTwoLookers, k_has h.prL (by omega), cI_s, tv_ite, k_has h.prL (by omega), cI_s, tv_ite, retZ_0, retZ_1, ite_n]
  unfold twB
  cases inB a (nL R) <;> cases inB b (nL R) <;> cases decide (a = b) <;> rfl
theorem so_y {R : RF} (hy : yr R ≤ 12) (a : Int32) : (yB R a && (decide (1 ≤ a.toInt) && decide (a.toInt ≤ 8))) = (decide (0 < nN R) && soB R a) := by
  unfold yB soB nB inB
  rw [Bool.and_assoc]
  congr 1
  rw [← Bool.decide_and, ← Bool.decide_and]
  apply decide_eq_decide.mpr
  omega
theorem h_chance {σ : St} {R : RF} (h : K0 σ R) (a b c : Int32) : Cc 190 0 [vR 88 0, vI a, vI b, vI c] σ = some (some (vI (tv (inB a (nL R) && soB R b && inB c 2))), σ) := by
  have hbb := h.b
  have e1 : (b < (1 : Int32)) = (b.toInt < 1) := by rw [Int32.lt_iff_toInt_lt]; rfl
  have e8 : (b ≤ (8 : Int32)) = (b.toInt ≤ 8) := by rw [Int32.le_iff_toInt_le]; rfl
  rw [c_H_isChanceAsked, h_inYear h, cI_s, tv_ite, h_two, cI_s, tv_ite, retZ_0, retZ_1]
  simp only [e1, e8]
  have hs := so_y (R := R) (by omega) b
  cases ha : inB a (nL R)
  · rfl
  · obtain ⟨l, hl, rfl⟩ := inB_e (by omega) ha
    rw [decide_eq_true (nLN h.1 hl), Bool.true_and] at hs
    rw [Bool.true_and, Bool.true_and, ← hs]
    by_cases h1 : b.toInt < 1
    · rw [if_pos h1, decide_eq_false (show ¬ 1 ≤ b.toInt by omega)]
      cases yB R b <;> rfl
    · rw [if_neg h1, decide_eq_true (show 1 ≤ b.toInt by omega)]
      by_cases h8 : b.toInt ≤ 8
      · rw [if_pos h8, decide_eq_true h8]
        cases yB R b <;> cases inB c 2 <;> rfl
      · rw [if_neg h8, decide_eq_false h8]
        cases yB R b <;> rfl
theorem see_W (R : RF) (hF : nF R ≤ 6) : see R (flW R (-1)) = see R (fal R) := see_congr (fun f hf => by
  unfold flW
  rw [decide_eq_false (nn1 (by omega)), Bool.or_false])
