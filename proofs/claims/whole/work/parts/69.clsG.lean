/-! THE CLASS'S ANSWERS that write nothing: what is told, seen, sets, the game -/
theorem h_ofPair {σ : St} {q n : Nat} {f g : Nat → Nat} (h : PR σ q n f g) (hn : n ≤ pln (q % 5)) (hp : pln (q % 5) < 2 ^ 31) (a1 a2 : Int32) : Cc 183 0 [vR 32 q, vI a1, vI a2] σ = some (some (vI (cond (inB a1 n && inB a2 2) (tw a2 (f (cl a1)) (g (cl a1))) (-2))), σ) := by
  rw [c_H_ofPair, k_has h (by omega), cI_s, tv_ite, h_two, cI_s, tv_ite, cond_and]
  cases hb : inB a1 n && inB a2 2
  · rfl
  · rw [Bool.and_eq_true] at hb
    obtain ⟨k, hk, rfl⟩ := inB_e (by omega) hb.1
    rw [cond_true, cond_true, cl_n (by omega), k_one h hk hn hp, cI_s, k_other h hk hn hp, cI_s]
    rcases half_e hb.2 with rfl | rfl
    · rw [if_pos q_0]; rfl
    · rw [if_neg (by decide)]; rfl
theorem t_place {σ : St} {R : RF} (h : HV σ R) (a1 a2 : Int32) : RH 119 [vI a1, vI a2] σ (vI (cond (inB a1 (nP R) && inB a2 2) (tw a2 (px R (cl a1)) (py R (cl a1))) (-2))) := by
  unfold RH
  rw [c_H_place, h_ofPair h.1.prP h.1.b.1 (by decide), cI_s]
theorem t_looker {σ : St} {R : RF} (h : HV σ R) (a1 a2 : Int32) : RH 122 [vI a1, vI a2] σ (vI (cond (inB a1 (nL R) && inB a2 2) (tw a2 (lp R (cl a1)) (lh R (cl a1))) (-2))) := by
  unfold RH
  rw [c_H_looker, h_ofPair h.1.prL h.1.b.2.2.2.2.1 (by decide), cI_s]
theorem inB_23 {a : Int32} (h : ¬ a = 2) : inB a 3 = inB a 2 := by
  unfold inB
  apply decide_eq_decide.mpr
  have e : a.toInt ≠ 2 := fun z => h (Int32.toInt_inj.mp z)
  omega
theorem h_worthOfMark {σ : St} {R : RF} (h : K0 σ R) {m : Nat} (hm : m < nM R) : Cc 74 0 [vR 48 0, vI (nI m)] σ = some (some (vI (nI (mw R m))), σ) := by
  have hbb := h.b
  rw [c_Roof_worthOfMark, show (5 * 0 + 1) = 1 from rfl, k_has h.prM (by omega), cI_s, inB_n hm (by omega), tv_ite, cond_true, ix_nI (by omega) (by omega), h.mw hm]
theorem t3_2 (x y : Nat) (z : Int32) : t3 2 x y z = z := rfl
theorem t3_n {a : Int32} (h : ¬ a = 2) (x y : Nat) (z : Int32) (ha : inB a 2 = true) : t3 a x y z = tw a x y := by
  rcases half_e ha with rfl | rfl <;> rfl
theorem t_mark {σ : St} {R : RF} (h : HV σ R) (a1 a2 : Int32) : RH 120 [vI a1, vI a2] σ (vI (cond (inB a1 (nM R) && inB a2 3) (t3 a2 (mx R (cl a1)) (my R (cl a1)) (nI (mw R (cl a1)))) (-2))) := by
  have hbb := h.1.b
  unfold RH
  rw [c_H_mark, k_has h.1.prM (by omega), cI_s, tv_ite, h_ofPair h.1.prM h.1.b.2.1 (by decide), cI_s]
  cases hb : inB a1 (nM R)
  · rfl
  · obtain ⟨k, hk, rfl⟩ := inB_e (by omega) hb
    rw [cond_true, Bool.true_and, Bool.true_and, h_worthOfMark h.1 hk, cI_s, cl_n (by omega)]
    by_cases h2 : a2 = 2
    · subst h2
      rw [if_pos rfl]
      rfl
    · rw [if_neg h2, inB_23 h2]
      cases hq : inB a2 2
      · rfl
      · rw [cond_true, cond_true, t3_n h2 _ _ _ hq]
theorem t_flue {σ : St} {R : RF} (h : HV σ R) (a1 a2 : Int32) : RH 121 [vI a1, vI a2] σ (vI (cond (inB a1 (nF R) && inB a2 3) (t3 a2 (fx R (cl a1)) (fy R (cl a1)) (cond (fal R (cl a1)) 0 1)) (-2))) := by
  have hbb := h.1.b
  unfold RH
  rw [c_H_flue, k_has h.1.prF (by omega), cI_s, tv_ite, h_ofPair h.1.prF h.1.b.2.2.1 (by decide), cI_s]
  cases hb : inB a1 (nF R)
  · rfl
  · obtain ⟨k, hk, rfl⟩ := inB_e (by omega) hb
    rw [cond_true, Bool.true_and, Bool.true_and, k_isFallen h.1 (by omega), cI_s, tv_ite, cl_n (by omega)]
    by_cases h2 : a2 = 2
    · subst h2
      rw [if_pos rfl]
      cases hz : fal R k <;> rfl
    · rw [if_neg h2, inB_23 h2]
      cases hq : inB a2 2
      · rfl
      · rw [cond_true, cond_true, t3_n h2 _ _ _ hq]
theorem k_neighbours {σ : St} {R : RF} (h : K0 σ R) {p : Nat} (hp : p < 2 ^ 31) : Cc 77 0 [vR 48 0, vI (nI p)] σ = some (some (vI (nI (bn (wayB R p) (nP R)))), σ) := by
  have hbb := h.b
  rw [c_Roof_neighbours]
  have hs := lpU (V := fun j => Vv 77 0 4 [some (vR 48 0), some (vI (nI p)), some (vI (nI (bn (fun q => ex (fun k => (decide (wa R k = p) && decide (wb R k = q)) || (decide (wa R k = q) && decide (wb R k = p))) j) (nP R)))), some (vI (nI j))] [] σ) (n := nW R) (fun j hj => by
    show Vv _ _ _ _ _ _ = Vv _ _ _ _ _ _
    have hw := h.1.2.2.2.2.2.1 j hj
    rw [v_Roof_neighbours_4, show (5 * 0 + 3) = 3 from rfl, h.prW.1, if_pos (nI_lt hj (by omega)), k_wa h hj, cI_s, k_wb h hj, cI_s, k_wb h hj, cI_s, k_wa h hj, cI_s, cI_s, k_wa h hj, cI_s, bn_orK (by omega) hw.2.1, bn_orK (by omega) hw.1, bn_orK (by omega) hw.1, nI_1]
    have hfin : ∀ Q : Nat → Bool, (∀ q, q < nP R → Q q = (ex (fun k => (decide (wa R k = p) && decide (wb R k = q)) || (decide (wa R k = q) && decide (wb R k = p))) j || ((decide (wa R j = p) && decide (wb R j = q)) || (decide (wa R j = q) && decide (wb R j = p))))) → Vv 77 0 4 [some (vR 48 0), some (vI (nI p)), some (vI (nI (bn Q (nP R)))), some (vI (nI (j + 1)))] [] σ = Vv 77 0 4 [some (vR 48 0), some (vI (nI p)), some (vI (nI (bn (fun q => ex (fun k => (decide (wa R k = p) && decide (wb R k = q)) || (decide (wa R k = q) && decide (wb R k = p))) (j + 1)) (nP R)))), some (vI (nI (j + 1)))] [] σ := fun Q hQ => by
      refine congrArg (fun z => Vv 77 0 4 [some (vR 48 0), some (vI (nI p)), some (vI (nI z)), some (vI (nI (j + 1)))] [] σ) (bn_congr (fun q hq => ?_))
      rw [ex_succ, hQ q hq]
    by_cases e1 : wa R j = p
    · rw [if_pos (by rw [e1])]
      by_cases e2 : wb R j = p
      · exact absurd (e1.trans e2.symm) hw.2.2
      · rw [if_neg (fun z => e2 ((nI_eq (by omega) hp).mp z))]
        refine hfin _ (fun q _ => ?_)
        rw [decide_eq_true e1, decide_eq_false e2, Bool.and_false, Bool.or_false, Bool.true_and]
        congr 1
        exact decide_eq_decide.mpr ⟨Eq.symm, Eq.symm⟩
    · rw [if_neg (fun z => e1 ((nI_eq (by omega) hp).mp z))]
      by_cases e2 : wb R j = p
      · rw [if_pos (by rw [e2])]
        refine hfin _ (fun q _ => ?_)
        rw [decide_eq_false e1, decide_eq_true e2, Bool.false_and, Bool.false_or, Bool.and_true]
        congr 1
        exact decide_eq_decide.mpr ⟨Eq.symm, Eq.symm⟩
      · rw [if_neg (fun z => e2 ((nI_eq (by omega) hp).mp z))]
        refine hfin _ (fun q _ => ?_)
        rw [decide_eq_false e1, decide_eq_false e2, Bool.false_and, Bool.and_false, Bool.or_false, Bool.or_false])
  have e0 : bn (fun q => ex (fun k => (decide (wa R k = p) && decide (wb R k = q)) || (decide (wa R k = q) && decide (wb R k = p))) 0) (nP R) = 0 := bn_0.mpr (fun _ _ => rfl)
  have hs : Vv 77 0 4 [some (vR 48 0), some (vI (nI p)), some (vI (nI (bn (fun q => ex (fun k => (decide (wa R k = p) && decide (wb R k = q)) || (decide (wa R k = q) && decide (wb R k = p))) 0) (nP R)))), some (vI (nI 0))] [] σ = Vv 77 0 4 [some (vR 48 0), some (vI (nI p)), some (vI (nI (bn (wayB R p) (nP R)))), some (vI (nI (nW R)))] [] σ := hs
  rw [e0] at hs
  refine Eq.trans hs ?_
  rw [v_Roof_neighbours_4, show (5 * 0 + 3) = 3 from rfl, h.prW.1, if_neg (nI_nlt (Nat.le_refl _) (by omega))]
theorem t_ways {σ : St} {R : RF} (h : HV σ R) (a1 : Int32) : RH 123 [vI a1] σ (vI (cond (inB a1 (nP R)) (nI (bn (wayB R (cl a1)) (nP R))) (-2))) := by
  have hbb := h.1.b
  refine RH_of (by rw [c_H_ways, k_has h.1.prP (by omega), cI_s, tv_ite]) (fun hq => ?_)
  obtain ⟨k, hk, rfl⟩ := inB_e (by omega) hq
  rw [k_neighbours h.1 (by omega), cI_s, cl_n (by omega)]
theorem t_sees {σ : St} {R : RF} (h : HV σ R) (a1 : Int32) : RH 124 [vI a1] σ (vI (cond (inB a1 (nP R)) (nI (bn (see R (fal R) (cl a1)) (nM R))) (-2))) := by
  have hbb := h.1.b
  refine RH_of (by rw [c_H_sees, k_has h.1.prP (by omega), cI_s, tv_ite]) (fun hq => ?_)
  obtain ⟨k, hk, rfl⟩ := inB_e (by omega) hq
  rw [k_marksFrom h.1 h.2.1 hk, cI_s, cl_n (by omega)]
theorem t_from {σ : St} {R : RF} (h : HV σ R) (a1 : Int32) : RH 125 [vI a1] σ (vI (cond (inB a1 (nM R)) (nI (bn (fun p => see R (fal R) p (cl a1)) (nP R))) (-2))) := by
  have hbb := h.1.b
  refine RH_of (by rw [c_H_from, k_has h.1.prM (by omega), cI_s, tv_ite]) (fun hq => ?_)
  obtain ⟨k, hk, rfl⟩ := inB_e (by omega) hq
  rw [k_placesOf h.1 h.2.1 hk, cI_s, cl_n (by omega)]
theorem t_hides {σ : St} {R : RF} (h : HV σ R) (a1 a2 : Int32) : RH 126 [vI a1, vI a2] σ (vI (cond (inB a1 (nP R) && inB a2 (nM R)) (fI (hb R (fal R) (cl a1) (cl a2)) (nF R)) (-2))) := by
  have hbb := h.1.b
  refine RH_of (by rw [c_H_hides, k_has h.1.prP (by omega), cI_s, tv_ite, k_has h.1.prM (by omega), cI_s, tv_ite, cond_and]) (fun hq => ?_)
  rw [Bool.and_eq_true] at hq
  obtain ⟨k1, g1, rfl⟩ := inB_e (by omega) hq.1
  obtain ⟨k2, g2, rfl⟩ := inB_e (by omega) hq.2
  rw [k_hider h.1 0 (-1) g1 g2, cI_s, cl_n (by omega), cl_n (by omega), fI_congr (P := hb R (flW R (-1)) k1 k2) (Q := hb R (fal R) k1 k2) (fun f hf => by
    unfold hb flW
    rw [decide_eq_false (nn1 (by omega)), Bool.or_false])]
theorem t_worth {σ : St} {R : RF} (h : HV σ R) (a1 : Int32) : RH 127 [vI a1] σ (vI (cond (inB a1 (nP R)) (nI (wth R (see R (fal R) (cl a1)))) (-2))) := by
  have hbb := h.1.b
  refine RH_of (by rw [c_H_worth, k_has h.1.prP (by omega), cI_s, tv_ite]) (fun hq => ?_)
  obtain ⟨k, hk, rfl⟩ := inB_e (by omega) hq
  rw [k_worthFrom h.1 h.2.1 hk, cI_s, cl_n (by omega)]
theorem t_blind {σ : St} {R : RF} (h : HV σ R) : RH 128 [] σ (vI (cond (decide (0 < nN R)) (nI (bn (fun p => decide (bn (see R (fal R) p) (nM R) = 0)) (nP R))) (-2))) := by
  have hbb := h.1.b
  refine RH_of (by rw [c_H_blind, h_isTold h.1, cI_s, tv_ite]) (fun hq => ?_)
  refine (lpB (V := fun x j => Vv 128 0 17 [some (vR 88 0), some (vI x), some (vI (nI j))] [] σ) (P := fun p => decide (bn (see R (fal R) p) (nM R) = 0)) (n := nP R) (by omega) (fun j x hj => ?_)).trans ?_
  · show Vv _ _ _ _ _ _ = cond _ (Vv _ _ _ _ _ _) (Vv _ _ _ _ _ _)
    have hlt : bn (see R (fal R) j) (nM R) < 2 ^ 31 := bn_le (by omega)
    rw [v_H_blind_17, h.1.prP.1, if_pos (nI_lt hj (by omega)), k_marksFrom h.1 h.2.1 hj, cI_s, nI_1, ite_n]
    simp only [nI_e0 hlt]
  · show Vv _ _ _ _ _ _ = _
    rw [v_H_blind_17, h.1.prP.1, if_neg (nI_nlt (Nat.le_refl _) (by omega))]
theorem aS_all {R : RF} {s : Nat → Nat → Bool} (m : Nat) : aS R s (Nat.testBit (bn (fun _ => true) (nP R))) m = ex (fun p => s p m) (nP R) := ex_congr (fun p hp => by rw [bn_tb, decide_eq_true hp]; rfl)
theorem t_lost {σ : St} {R : RF} (h : HV σ R) : RH 129 [] σ (vI (cond (decide (0 < nN R)) (nI (bn (fun m => decide (bn (fun p => see R (fal R) p m) (nP R) = 0)) (nM R))) (-2))) := by
  have hbb := h.1.b
  refine RH_of (by rw [c_H_lost, h_isTold h.1, cI_s, tv_ite]) (fun hq => ?_)
  rw [k_all h.1.prM (by omega), cI_s, k_all h.1.prP (by omega), cI_s, k_marksFromSet h.1 h.2.1 (bn_le (by omega)), cI_s, bn_anot]
  refine congrArg (fun z => some (some (vI (nI z)), σ)) (bn_congr (fun m hm => ?_))
  rw [aS_all, Bool.true_and]
  cases hz : ex (fun p => see R (fal R) p m) (nP R)
  · exact (decide_eq_true (bn_0.mpr (ex_no.mp hz))).symm
  · refine (decide_eq_false (fun hq => ?_)).symm
    have := bn_0.mp hq
    rw [ex_no.mpr this] at hz
    cases hz
/-- the best of some is sought -/
theorem lpAP {β : Type} {V : Int32 → Nat → β} {P : Nat → Bool} {lt : Nat → Nat → Bool} {n : Nat} (hn : ∀ j x, j < n → P j = false → V x j = V x (j + 1)) (h0 : ∀ j, j < n → P j = true → V (-1) j = V (nI j) (j + 1)) (h1 : ∀ j b, j < n → b < j → P j = true → V (nI b) j = cond (lt b j) (V (nI j) (j + 1)) (V (nI b) (j + 1))) : V (-1) 0 = V (oI (am P lt n)) n :=
  lpU (V := fun j => V (oI (am P lt j)) j) (n := n) (fun j hj => by
    show V _ j = V _ (j + 1)
    rw [am_s]
    cases hp : P j
    · rw [hn j _ hj hp]
      cases am P lt j <;> rfl
    · cases hq : am P lt j with
      | none => exact h0 j hj hp
      | some b =>
        show V (nI b) j = V (oI (cond (true && lt b j) (some j) (some b))) (j + 1)
        rw [h1 j b hj (am_in hq).1 hp, Bool.true_and]
        cases lt b j <;> rfl)
theorem k_placeOfMost {σ : St} {R : RF} {i : Nat} {fl : Nat → Bool} (h : K0 σ R) (hs : SC σ i R fl) {x : Nat} (hx : x < 2 ^ 31) : Cc 105 0 [vR 72 i, vI (nI x)] σ = some (some (vI (oI (am (Nat.testBit x) (fun b p => decide (wth R (see R fl b) < wth R (see R fl p))) (nP R)))), σ) := by
  have hbb := h.b
  rw [c_Sight_placeOfMostWorth]
  have hb : ∀ j y, j < nP R → Vv 105 0 4 [some (vR 72 i), some (vI (nI x)), some (vI y), some (vI (nI j))] [] σ = cond (Nat.testBit x j) (if y = -1 then Vv 105 0 4 [some (vR 72 i), some (vI (nI x)), some (vI (nI j)), some (vI (nI (j + 1)))] [] σ else ix y 6 (fun k2 => if nI (wth R (see R fl j)) ≤ (gI σ 3273 i k2) then Vv 105 0 4 [some (vR 72 i), some (vI (nI x)), some (vI y), some (vI (nI (j + 1)))] [] σ else Vv 105 0 4 [some (vR 72 i), some (vI (nI x)), some (vI (nI j)), some (vI (nI (j + 1)))] [] σ)) (Vv 105 0 4 [some (vR 72 i), some (vI (nI x)), some (vI y), some (vI (nI (j + 1)))] [] σ) := fun j y hj => by
    rw [v_Sight_placeOfMostWorth_4, h.prP.1, if_pos (nI_lt hj (by omega)), bit_ne, bit_n hx (by omega), ix_nI (by omega) (by omega), (hs j hj).2, nI_1]
  refine (lpAP (V := fun y j => Vv 105 0 4 [some (vR 72 i), some (vI (nI x)), some (vI y), some (vI (nI j))] [] σ) (P := Nat.testBit x) (lt := fun b p => decide (wth R (see R fl b) < wth R (see R fl p))) (n := nP R) (fun j y hj hp => ?_) (fun j hj hp => ?_) (fun j b hj hbj hp => ?_)).trans ?_
  · show Vv _ _ _ _ _ _ = Vv _ _ _ _ _ _
    rw [hb j y hj, hp, cond_false]
  · show Vv _ _ _ _ _ _ = Vv _ _ _ _ _ _
    rw [hb j _ hj, hp, cond_true, if_pos rfl]
  · show Vv _ _ _ _ _ _ = cond _ (Vv _ _ _ _ _ _) (Vv _ _ _ _ _ _)
    have w1 := wth_le h.1 (see R fl j)
    have w2 := wth_le h.1 (see R fl b)
    rw [hb j _ hj, hp, cond_true, if_neg (nn1 (by omega)), ix_nI (by omega) (by omega), (hs b (by omega)).2, le_lt (by omega) (by omega)]
  · show Vv _ _ _ _ _ _ = _
    rw [v_Sight_placeOfMostWorth_4, h.prP.1, if_neg (nI_nlt (Nat.le_refl _) (by omega))]
theorem t_best {σ : St} {R : RF} (h : HV σ R) : RH 130 [] σ (vI (cond (decide (0 < nN R)) (oI (am (fun _ => true) (fun b p => decide (wth R (see R (fal R) b) < wth R (see R (fal R) p))) (nP R))) (-2))) := by
  have hbb := h.1.b
  refine RH_of (by rw [c_H_best, h_isTold h.1, cI_s, tv_ite]) (fun hq => ?_)
  rw [k_all h.1.prP (by omega), cI_s, k_placeOfMost h.1 h.2.1 (bn_le (by omega)), cI_s, am_congr (P := Nat.testBit (bn (fun _ => true) (nP R))) (Q := fun _ => true) (gt := fun b p => decide (wth R (see R (fal R) b) < wth R (see R (fal R) p))) (fun k hk => by rw [bn_tb, decide_eq_true hk]; rfl) (fun _ _ _ _ => rfl)]
