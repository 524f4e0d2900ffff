/-! THE REFERENCE'S ANSWERS: what is told, seen; who is where -/
theorem m_at {σ : St} {R : RF} (h : H0 σ R) (a1 a2 : Int32) : RM 292 [vI a1, vI a2] σ (vI (cond (inB a1 (nL R) && yB R a2) (nI (P0 R (cl a2) (cl a1))) (-2))) := by
  have hbb := h.b
  have h1 := thr_H h
  obtain ⟨σ3, c3, f3, v3⟩ := s_laysNow h1
  refine RM_of (by rw [c_M_at, r_isMan h1, cI_s, tv_ite, r_isYear h1, cI_s, tv_ite, c3, cV_s, cond_and]) (thr_F σ) (fun hq => ⟨σ3, ?_, f3⟩)
  rw [Bool.and_eq_true] at hq
  obtain ⟨k1, g1, rfl⟩ := inB_e (by omega) hq.1
  obtain ⟨k2, g2, rfl⟩ := yB_e (by omega) hq.2
  rw [six_n, nI_add, ix_nI (by omega) (by omega), v3.2.2.1 k2 (by omega) k1 g1, cl_n (by omega), cl_n (by omega)]
theorem m_who {σ : St} {R : RF} (h : H0 σ R) (a1 a2 : Int32) : RM 293 [vI a1, vI a2] σ (vI (cond (inB a1 (nP R) && yB R a2) (fI (fun l => decide (P0 R (cl a2) l = cl a1)) (nL R)) (-2))) := by
  have hbb := h.b
  have h1 := thr_H h
  obtain ⟨σ3, c3, f3, v3⟩ := s_laysNow h1
  refine RM_of (by rw [c_M_who, r_isPlace h1, cI_s, tv_ite, r_isYear h1, cI_s, tv_ite, c3, cV_s, cond_and]) (thr_F σ) (fun hq => ⟨σ3, ?_, f3⟩)
  rw [Bool.and_eq_true] at hq
  obtain ⟨k1, g1, rfl⟩ := inB_e (by omega) hq.1
  obtain ⟨k2, g2, rfl⟩ := yB_e (by omega) hq.2
  rw [cl_n (by omega), cl_n (by omega)]
  refine lpI (V := fun j => Vv 293 0 32 [some (vR 96 0), some (vI (nI k1)), some (vI (nI k2)), some (vI (nI j))] [] σ3) (nL R) (fun j hj => ?_) ?_
  · show Vv _ _ _ _ _ _ = _
    have hp := (v3.2.2.2 k2).1 j hj
    rw [v_M_who_32, cI_L v3.1, if_pos (nI_lt hj (by omega)), six_n, nI_add, ix_nI (by omega) (by omega), v3.2.2.1 k2 (by omega) j hj, nI_1, ite_n]
    simp only [nI_eq (show P0 R k2 j < 2 ^ 31 by omega) (show k1 < 2 ^ 31 by omega)]
  · show Vv _ _ _ _ _ _ = _
    rw [v_M_who_32, cI_L v3.1, if_neg (nI_nlt (Nat.le_refl _) (by omega))]
theorem m_seen {σ : St} {R : RF} (h : H0 σ R) (a1 a2 : Int32) : RM 294 [vI a1, vI a2] σ (vI (cond (inB a1 (nL R) && yB R a2) (nI (bn (fun m => ex (fun y => see R (fal R) (P0 R y (cl a1)) m) (cl a2 + 1)) (nM R))) (-2))) := by
  have hbb := h.b
  have h1 := thr_H h
  obtain ⟨σ3, c3, f3, v3⟩ := s_laysNow h1
  refine RM_of (by rw [c_M_seen, r_isMan h1, cI_s, tv_ite, r_isYear h1, cI_s, tv_ite, c3, cV_s, cond_and]) (thr_F σ) (fun hq => ⟨σ3, ?_, f3⟩)
  rw [Bool.and_eq_true] at hq
  obtain ⟨k1, g1, rfl⟩ := inB_e (by omega) hq.1
  obtain ⟨k2, g2, rfl⟩ := yB_e (by omega) hq.2
  rw [cl_n (by omega), cl_n (by omega)]
  have hs := lpU (V := fun j => Vv 294 0 34 [some (vR 96 0), some (vI (nI k1)), some (vI (nI k2)), some (vI (nI (bn (fun m => ex (fun y => see R (fal R) (P0 R y k1) m) j) (nM R)))), some (vI (nI j))] [] σ3) (n := k2 + 1) (fun j hj => by
    show Vv _ _ _ _ _ _ = Vv _ _ _ _ _ _
    rw [v_M_seen_34, if_pos (nI_le (show j ≤ k2 by omega) (by omega)), s_seesAt v3 g1 (by omega), cI_s, nI_or, bn_or, nI_1]
    refine congrArg (fun z => Vv 294 0 34 [some (vR 96 0), some (vI (nI k1)), some (vI (nI k2)), some (vI (nI z)), some (vI (nI (j + 1)))] [] σ3) (bn_congr (fun m _ => ?_))
    rw [ex_succ])
  have e0 : bn (fun m => ex (fun y => see R (fal R) (P0 R y k1) m) 0) (nM R) = 0 := bn_0.mpr (fun _ _ => rfl)
  have hs : Vv 294 0 34 [some (vR 96 0), some (vI (nI k1)), some (vI (nI k2)), some (vI (nI (bn (fun m => ex (fun y => see R (fal R) (P0 R y k1) m) 0) (nM R)))), some (vI (nI 0))] [] σ3 = Vv 294 0 34 [some (vR 96 0), some (vI (nI k1)), some (vI (nI k2)), some (vI (nI (bn (fun m => ex (fun y => see R (fal R) (P0 R y k1) m) (k2 + 1)) (nM R)))), some (vI (nI (k2 + 1)))] [] σ3 := hs
  rw [e0] at hs
  refine Eq.trans hs ?_
  rw [v_M_seen_34, if_neg (nI_ge (by omega) (by omega))]
theorem m_joy {σ : St} {R : RF} (h : H0 σ R) (a1 a2 : Int32) : RM 295 [vI a1, vI a2] σ (vI (cond (inB a1 (nL R) && yB R a2) (nI (jy R (see R (fal R)) (P0 R) (cl a1) (cl a2))) (-2))) := by
  have hbb := h.b
  have h1 := thr_H h
  obtain ⟨σ3, c3, f3, v3⟩ := s_laysNow h1
  refine RM_of (by rw [c_M_joy, r_isMan h1, cI_s, tv_ite, r_isYear h1, cI_s, tv_ite, c3, cV_s, cond_and]) (thr_F σ) (fun hq => ⟨σ3, ?_, f3⟩)
  rw [Bool.and_eq_true] at hq
  obtain ⟨k1, g1, rfl⟩ := inB_e (by omega) hq.1
  obtain ⟨k2, g2, rfl⟩ := yB_e (by omega) hq.2
  rw [cl_n (by omega), cl_n (by omega), s_joyOf v3 g1 g2, cI_s]
theorem m_life {σ : St} {R : RF} (h : H0 σ R) (a1 : Int32) : RM 296 [vI a1] σ (vI (cond (inB a1 (nL R)) (nI (life R (see R (fal R)) (P0 R) (cl a1))) (-2))) := by
  have hbb := h.b
  have h1 := thr_H h
  obtain ⟨σ3, c3, f3, v3⟩ := s_laysNow h1
  refine RM_of (by rw [c_M_life, r_isMan h1, cI_s, tv_ite, c3, cV_s]) (thr_F σ) (fun hq => ⟨σ3, ?_, f3⟩)
  obtain ⟨k1, g1, rfl⟩ := inB_e (by omega) hq
  rw [cl_n (by omega), s_lifeOf v3 g1, cI_s]
theorem m_sad {σ : St} {R : RF} (h : H0 σ R) : RM 297 [] σ (vI (cond (decide (0 < nN R)) (oI (am (fun _ => true) (fun b l => decide (life R (see R (fal R)) (P0 R) l < life R (see R (fal R)) (P0 R) b)) (nL R))) (-2))) := by
  have hbb := h.b
  have h1 := thr_H h
  obtain ⟨σ3, c3, f3, v3⟩ := s_laysNow h1
  refine RM_of (by rw [c_M_sad, r_isRoof h1, cI_s, tv_ite, c3, cV_s]) (thr_F σ) (fun hq => ⟨σ3, ?_, f3⟩)
  refine (lpA (V := fun x j => Vv 297 0 23 [some (vR 96 0), some (vI x), some (vI (nI j))] [] σ3) (lt := fun b l => decide (life R (see R (fal R)) (P0 R) l < life R (see R (fal R)) (P0 R) b)) (n := nL R) (fun j hj => ?_) (fun j b hj hb => ?_)).trans ?_
  · show Vv _ _ _ _ _ _ = Vv _ _ _ _ _ _
    rw [v_M_sad_23, cI_L v3.1, if_pos (nI_lt hj (by omega)), if_pos rfl, nI_1]
  · show Vv _ _ _ _ _ _ = _
    have w1 := life_le h.1 (see R (fal R)) (P0 R) j
    have w2 := life_le h.1 (see R (fal R)) (P0 R) b
    rw [v_M_sad_23, cI_L v3.1, if_pos (nI_lt hj (by omega)), if_neg (nn1 (by omega)), s_lifeOf v3 hj, cI_s, s_lifeOf v3 (show b < nL R by omega), cI_s, nI_1, ite_n]
    simp only [nI_ltI (show life R (see R (fal R)) (P0 R) j < 2 ^ 31 by omega) (show life R (see R (fal R)) (P0 R) b < 2 ^ 31 by omega)]
  · show Vv _ _ _ _ _ _ = _
    rw [v_M_sad_23, cI_L v3.1, if_neg (nI_nlt (Nat.le_refl _) (by omega))]
theorem m_drill {σ : St} {R : RF} (h : H0 σ R) (a1 : Int32) : RM 298 [vI a1] σ (vI (cond (inB a1 (nL R)) (fI (fun y => see R (fal R) (P0 R y (cl a1)) (lh R (cl a1))) (yr R + 1)) (-2))) := by
  have hbb := h.b
  have h1 := thr_H h
  obtain ⟨σ3, c3, f3, v3⟩ := s_laysNow h1
  refine RM_of (by rw [c_M_drill, r_isMan h1, cI_s, tv_ite, c3, cV_s]) (thr_F σ) (fun hq => ⟨σ3, ?_, f3⟩)
  obtain ⟨k1, g1, rfl⟩ := inB_e (by omega) hq
  rw [cl_n (by omega), s_drillOf v3 g1, cI_s]
theorem m_glad {σ : St} {R : RF} (h : H0 σ R) (a1 : Int32) : RM 299 [vI a1] σ (vI (cond (yB R a1) (nI (bn (fun l => see R (fal R) (P0 R (cl a1) l) (lh R l)) (nL R))) (-2))) := by
  have hbb := h.b
  have h1 := thr_H h
  obtain ⟨σ3, c3, f3, v3⟩ := s_laysNow h1
  refine RM_of (by rw [c_M_glad, r_isYear h1, cI_s, tv_ite, c3, cV_s]) (thr_F σ) (fun hq => ⟨σ3, ?_, f3⟩)
  obtain ⟨k1, g1, rfl⟩ := yB_e (by omega) hq
  rw [cl_n (by omega), s_gladP v3 g1, cI_s]
theorem m_often {σ : St} {R : RF} (h : H0 σ R) (a1 : Int32) : RM 300 [vI a1] σ (vI (cond (inB a1 (nL R)) (nI (cn (fun y => see R (fal R) (P0 R y (cl a1)) (lh R (cl a1))) (yr R + 1))) (-2))) := by
  have hbb := h.b
  have h1 := thr_H h
  obtain ⟨σ3, c3, f3, v3⟩ := s_laysNow h1
  refine RM_of (by rw [c_M_often, r_isMan h1, cI_s, tv_ite, c3, cV_s]) (thr_F σ) (fun hq => ⟨σ3, ?_, f3⟩)
  obtain ⟨k1, g1, rfl⟩ := inB_e (by omega) hq
  rw [cl_n (by omega)]
  refine (lpC (V := fun x j => Vv 300 0 24 [some (vR 96 0), some (vI (nI k1)), some (vI x), some (vI (nI j))] [] σ3) (P := fun y => see R (fal R) (P0 R y k1) (lh R k1)) (n := yr R + 1) (fun j x hj => ?_)).trans ?_
  · show Vv _ _ _ _ _ _ = cond _ (Vv _ _ _ _ _ _) (Vv _ _ _ _ _ _)
    rw [v_M_often_24, cI_Y v3.1, if_pos (nI_le (show j ≤ yr R by omega) (by omega)), s_gladP v3 (by omega), cI_s, s_isBit, cI_s, bit_in (by omega) g1, tv_ite, nI_1, Int32.add_zero]
  · show Vv _ _ _ _ _ _ = _
    rw [v_M_often_24, cI_Y v3.1, if_neg (nI_ge (by omega) (by omega))]
theorem s_isAsFirst {σ : St} {R : RF} {fl : Nat → Bool} {P : Nat → Nat → Nat} (v : YV σ R fl P) {y : Nat} (hy : y ≤ yr R) : Cc 301 0 [vR 96 0, vI (nI y)] σ = some (some (vI (tv (!ex (fun l => !decide (P y l = P 0 l)) (nL R)))), σ) := by
  have hbb := v.1.b
  rw [c_M_isAsFirst]
  refine lpZn (V := fun j => Vv 301 0 2 [some (vR 96 0), some (vI (nI y)), some (vI (nI j))] [] σ) (nL R) (fun j hj => ?_) ?_
  · show Vv _ _ _ _ _ _ = _
    have w1 := (v.2.2.2 y).1 j hj
    have w2 := (v.2.2.2 0).1 j hj
    have a0 := v.2.2.1 0 (by omega) j hj
    rw [Nat.mul_zero, Nat.zero_add] at a0
    rw [v_M_isAsFirst_2, cI_L v.1, if_pos (nI_lt hj (by omega)), six_n, nI_add, ix_nI (by omega) (by omega), ix_nI (by omega) (by omega), v.2.2.1 y (by omega) j hj, a0, nI_1, retZ_0, ite_n]
    simp only [nI_eq (show P y j < 2 ^ 31 by omega) (show P 0 j < 2 ^ 31 by omega)]
    cases decide (P y j = P 0 j) <;> rfl
  · show Vv _ _ _ _ _ _ = _
    rw [v_M_isAsFirst_2, cI_L v.1, if_neg (nI_nlt (Nat.le_refl _) (by omega)), retZ_1]
/-- the first from 1 on, or NONE -/
def fJ (P : Nat → Bool) (n : Nat) : Int32 := cond (decide (fr P n 1 < 1 + n)) (nI (fr P n 1)) (-1)
theorem m_round {σ : St} {R : RF} (h : H0 σ R) : RM 302 [] σ (vI (cond (decide (0 < nN R)) (fJ (fun y => !ex (fun l => !decide (P0 R y l = P0 R 0 l)) (nL R)) (yr R)) (-2))) := by
  have hbb := h.b
  have h1 := thr_H h
  obtain ⟨σ3, c3, f3, v3⟩ := s_laysNow h1
  refine RM_of (by rw [c_M_round, r_isRoof h1, cI_s, tv_ite, c3, cV_s]) (thr_F σ) (fun hq => ⟨σ3, ?_, f3⟩)
  have hs := lpF (V := fun j => Vv 302 0 21 [some (vR 96 0), some (vI (nI j))] [] σ3) (P := fun y => !ex (fun l => !decide (P0 R y l = P0 R 0 l)) (nL R)) (r := fun j => some (some (vI (nI j)), σ3)) (yr R) 1 (fun j j1 j2 => by
    show Vv _ _ _ _ _ _ = _
    rw [v_M_round_21, cI_Y v3.1, if_pos (nI_le (show j ≤ yr R by omega) (by omega)), s_isAsFirst v3 (by omega), cI_s, tv_ite, nI_1])
  refine Eq.trans hs ?_
  have he : Vv 302 0 21 [some (vR 96 0), some (vI (nI (1 + yr R)))] [] σ3 = some (some (vI (-1)), σ3) := by
    rw [v_M_round_21, cI_Y v3.1, if_neg (nI_ge (by omega) (by omega))]
  show cond _ _ (Vv _ _ _ _ _ _) = _
  rw [he]
  unfold fJ
  cases decide (fr (fun y => !ex (fun l => !decide (P0 R y l = P0 R 0 l)) (nL R)) (yr R) 1 < 1 + yr R) <;> rfl
theorem m_walks {σ : St} {R : RF} (h : H0 σ R) (a1 : Int32) : RM 303 [vI a1] σ (vI (cond (inB a1 (nL R)) (nI (bn (fun p => ex (fun y => decide (P0 R y (cl a1) = p)) (yr R + 1)) (nP R))) (-2))) := by
  have hbb := h.b
  have h1 := thr_H h
  obtain ⟨σ3, c3, f3, v3⟩ := s_laysNow h1
  refine RM_of (by rw [c_M_walks, r_isMan h1, cI_s, tv_ite, c3, cV_s]) (thr_F σ) (fun hq => ⟨σ3, ?_, f3⟩)
  obtain ⟨k1, g1, rfl⟩ := inB_e (by omega) hq
  rw [cl_n (by omega)]
  have hs := lpU (V := fun j => Vv 303 0 24 [some (vR 96 0), some (vI (nI k1)), some (vI (nI (bn (fun p => ex (fun y => decide (P0 R y k1 = p)) j) (nP R)))), some (vI (nI j))] [] σ3) (n := yr R + 1) (fun j hj => by
    show Vv _ _ _ _ _ _ = Vv _ _ _ _ _ _
    rw [v_M_walks_24, cI_Y v3.1, if_pos (nI_le (show j ≤ yr R by omega) (by omega)), six_n, nI_add, ix_nI (by omega) (by omega), v3.2.2.1 j (by omega) k1 g1, bn_orK (by omega) ((v3.2.2.2 j).1 k1 g1), nI_1]
    refine congrArg (fun z => Vv 303 0 24 [some (vR 96 0), some (vI (nI k1)), some (vI (nI z)), some (vI (nI (j + 1)))] [] σ3) (bn_congr (fun m _ => ?_))
    rw [ex_succ]
    congr 1
    exact decide_eq_decide.mpr ⟨Eq.symm, Eq.symm⟩)
  have e0 : bn (fun p => ex (fun y => decide (P0 R y k1 = p)) 0) (nP R) = 0 := bn_0.mpr (fun _ _ => rfl)
  have hs : Vv 303 0 24 [some (vR 96 0), some (vI (nI k1)), some (vI (nI (bn (fun p => ex (fun y => decide (P0 R y k1 = p)) 0) (nP R)))), some (vI (nI 0))] [] σ3 = Vv 303 0 24 [some (vR 96 0), some (vI (nI k1)), some (vI (nI (bn (fun p => ex (fun y => decide (P0 R y k1 = p)) (yr R + 1)) (nP R)))), some (vI (nI (yr R + 1)))] [] σ3 := hs
  rw [e0] at hs
  refine Eq.trans hs ?_
  rw [v_M_walks_24, cI_Y v3.1, if_neg (nI_ge (by omega) (by omega))]
theorem m_feast {σ : St} {R : RF} (h : H0 σ R) : RM 305 [] σ (vI (cond (decide (0 < nN R)) (oI (am (fun _ => true) (fun b y => decide (joyY R (see R (fal R)) (P0 R) b < joyY R (see R (fal R)) (P0 R) y)) (yr R + 1))) (-2))) := by
  have hbb := h.b
  have h1 := thr_H h
  obtain ⟨σ3, c3, f3, v3⟩ := s_laysNow h1
  refine RM_of (by rw [c_M_feast, r_isRoof h1, cI_s, tv_ite, c3, cV_s]) (thr_F σ) (fun hq => ⟨σ3, ?_, f3⟩)
  refine (lpA1 (V := fun x j => Vv 305 0 23 [some (vR 96 0), some (vI x), some (vI (nI j))] [] σ3) (lt := fun b y => decide (joyY R (see R (fal R)) (P0 R) b < joyY R (see R (fal R)) (P0 R) y)) (n := yr R + 1) (by omega) (fun j b hj1 hj hb => ?_)).trans ?_
  · show Vv _ _ _ _ _ _ = _
    have w1 := joyY_le h.1 (see R (fal R)) (P0 R) j
    have w2 := joyY_le h.1 (see R (fal R)) (P0 R) b
    rw [v_M_feast_23, cI_Y v3.1, if_pos (nI_le (show j ≤ yr R by omega) (by omega)), s_joyAt v3 (by omega), cI_s, s_joyAt v3 (show b ≤ yr R by omega), cI_s, nI_1, ite_n]
    simp only [nI_leI (show joyY R (see R (fal R)) (P0 R) j < 2 ^ 31 by omega) (show joyY R (see R (fal R)) (P0 R) b < 2 ^ 31 by omega)]
    by_cases hz : joyY R (see R (fal R)) (P0 R) b < joyY R (see R (fal R)) (P0 R) j
    · rw [decide_eq_true hz, decide_eq_false (Nat.not_le.mpr hz)]; rfl
    · rw [decide_eq_false hz, decide_eq_true (Nat.not_lt.mp hz)]; rfl
  · show Vv _ _ _ _ _ _ = _
    rw [v_M_feast_23, cI_Y v3.1, if_neg (nI_ge (by omega) (by omega))]
theorem m_envies {σ : St} {R : RF} (h : H0 σ R) (a1 a2 : Int32) : RM 306 [vI a1, vI a2] σ (vI (cond (inB a1 (nL R) && yB R a2) (nI (bn (fun k => decide (wth R (see R (fal R) (P0 R (cl a2) (cl a1))) < wth R (see R (fal R) (P0 R (cl a2) k)))) (nL R))) (-2))) := by
  have hbb := h.b
  have h1 := thr_H h
  obtain ⟨σ3, c3, f3, v3⟩ := s_laysNow h1
  refine RM_of (by rw [c_M_envies, r_isMan h1, cI_s, tv_ite, r_isYear h1, cI_s, tv_ite, c3, cV_s, cond_and]) (thr_F σ) (fun hq => ⟨σ3, ?_, f3⟩)
  rw [Bool.and_eq_true] at hq
  obtain ⟨k1, g1, rfl⟩ := inB_e (by omega) hq.1
  obtain ⟨k2, g2, rfl⟩ := yB_e (by omega) hq.2
  rw [cl_n (by omega), cl_n (by omega)]
  refine (lpB (V := fun x j => Vv 306 0 34 [some (vR 96 0), some (vI (nI k1)), some (vI (nI k2)), some (vI x), some (vI (nI j))] [] σ3) (P := fun k => decide (wth R (see R (fal R) (P0 R k2 k1)) < wth R (see R (fal R) (P0 R k2 k)))) (n := nL R) (by omega) (fun j x hj => ?_)).trans ?_
  · show Vv _ _ _ _ _ _ = cond _ (Vv _ _ _ _ _ _) (Vv _ _ _ _ _ _)
    have w1 := wth_le h.1 (see R (fal R) (P0 R k2 k1))
    have w2 := wth_le h.1 (see R (fal R) (P0 R k2 j))
    rw [v_M_envies_34, cI_L v3.1, if_pos (nI_lt hj (by omega)), six_n, nI_add, ix_nI (by omega) (by omega), v3.2.2.1 k2 (by omega) j hj, s_placeW v3.1 v3.2.1 ((v3.2.2.2 k2).1 j hj), cI_s, nI_add, ix_nI (by omega) (by omega), v3.2.2.1 k2 (by omega) k1 g1, s_placeW v3.1 v3.2.1 ((v3.2.2.2 k2).1 k1 g1), cI_s, nI_1, or0, ite_n]
    simp only [nI_leI (show wth R (see R (fal R) (P0 R k2 j)) < 2 ^ 31 by omega) (show wth R (see R (fal R) (P0 R k2 k1)) < 2 ^ 31 by omega)]
    by_cases hz : wth R (see R (fal R) (P0 R k2 k1)) < wth R (see R (fal R) (P0 R k2 j))
    · rw [decide_eq_true hz, decide_eq_false (Nat.not_le.mpr hz)]; rfl
    · rw [decide_eq_false hz, decide_eq_true (Nat.not_lt.mp hz)]; rfl
  · show Vv _ _ _ _ _ _ = _
    rw [v_M_envies_34, cI_L v3.1, if_neg (nI_nlt (Nat.le_refl _) (by omega))]
