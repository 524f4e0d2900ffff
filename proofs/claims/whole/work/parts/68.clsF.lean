/-! THE CLASS'S ANSWERS that write nothing -/
abbrev HV (σ : St) (R : RF) : Prop := CV σ 0 R (fal R) (P0 R)
def RH (m : Nat) (a : List AV) (σ : St) (v : AV) : Prop := Cc m 0 (vR 88 0 :: a) σ = some (some v, σ)
theorem RH_of {m : Nat} {a : List AV} {σ : St} {b : Bool} {X : Option AR} {v w : Int32} (hc : Cc m 0 (vR 88 0 :: a) σ = cond b X (some (some (vI w), σ))) (hX : b = true → X = some (some (vI v), σ)) : RH m a σ (vI (cond b v w)) := by
  unfold RH
  rw [hc]
  cases b
  · rfl
  · exact hX rfl
theorem t_at {σ : St} {R : RF} (h : HV σ R) (a1 a2 : Int32) : RH 131 [vI a1, vI a2] σ (vI (cond (inB a1 (nL R) && yB R a2) (nI (P0 R (cl a2) (cl a1))) (-2))) := by
  have hbb := h.1.b
  refine RH_of (by rw [c_H_at, h_inYear h.1, cI_s, tv_ite]) (fun hq => ?_)
  rw [Bool.and_eq_true] at hq
  obtain ⟨k1, g1, rfl⟩ := inB_e (by omega) hq.1
  obtain ⟨k2, g2, rfl⟩ := yB_e (by omega) hq.2
  rw [k_spot h g1 g2, cI_s, cl_n (by omega), cl_n (by omega)]
theorem t_who {σ : St} {R : RF} (h : HV σ R) (a1 a2 : Int32) : RH 132 [vI a1, vI a2] σ (vI (cond (inB a1 (nP R) && yB R a2) (fI (fun l => decide (P0 R (cl a2) l = cl a1)) (nL R)) (-2))) := by
  have hbb := h.1.b
  refine RH_of (by rw [c_H_who, k_has h.1.prP (by omega), cI_s, tv_ite, h_hasYear h.1, cI_s, tv_ite, cond_and]) (fun hq => ?_)
  rw [Bool.and_eq_true] at hq
  obtain ⟨k1, g1, rfl⟩ := inB_e (by omega) hq.1
  obtain ⟨k2, g2, rfl⟩ := yB_e (by omega) hq.2
  rw [cl_n (by omega), cl_n (by omega)]
  refine lpI (V := fun j => Vv 132 0 30 [some (vR 88 0), some (vI (nI k1)), some (vI (nI k2)), some (vI (nI j))] [] σ) (nL R) (fun j hj => ?_) ?_
  · show Vv _ _ _ _ _ _ = _
    have hp := (h.2.2.2 k2).1 j hj
    rw [v_H_who_30, h.1.prL.1, if_pos (nI_lt hj (by omega)), k_spot h hj g2, cI_s, nI_1, eq_c (by omega) (by omega)]
  · show Vv _ _ _ _ _ _ = _
    rw [v_H_who_30, h.1.prL.1, if_neg (nI_nlt (Nat.le_refl _) (by omega))]
theorem t_seen {σ : St} {R : RF} (h : HV σ R) (a1 a2 : Int32) : RH 133 [vI a1, vI a2] σ (vI (cond (inB a1 (nL R) && yB R a2) (nI (bn (fun m => ex (fun y => see R (fal R) (P0 R y (cl a1)) m) (cl a2 + 1)) (nM R))) (-2))) := by
  have hbb := h.1.b
  refine RH_of (by rw [c_H_seen, h_inYear h.1, cI_s, tv_ite]) (fun hq => ?_)
  rw [Bool.and_eq_true] at hq
  obtain ⟨k1, g1, rfl⟩ := inB_e (by omega) hq.1
  obtain ⟨k2, g2, rfl⟩ := yB_e (by omega) hq.2
  rw [cl_n (by omega), cl_n (by omega)]
  have hs := lpU (V := fun j => Vv 133 0 17 [some (vR 88 0), some (vI (nI k1)), some (vI (nI k2)), some (vI (nI (bn (fun m => ex (fun y => see R (fal R) (P0 R y k1) m) j) (nM R)))), some (vI (nI j))] [] σ) (n := k2 + 1) (fun j hj => by
    show Vv _ _ _ _ _ _ = Vv _ _ _ _ _ _
    rw [v_H_seen_17, if_pos (nI_le (show j ≤ k2 by omega) (by omega)), k_marksSeen h g1 (by omega), cI_s, nI_or, bn_or, nI_1]
    refine congrArg (fun z => Vv 133 0 17 [some (vR 88 0), some (vI (nI k1)), some (vI (nI k2)), some (vI (nI z)), some (vI (nI (j + 1)))] [] σ) (bn_congr (fun m _ => ?_))
    rw [ex_succ])
  have e0 : bn (fun m => ex (fun y => see R (fal R) (P0 R y k1) m) 0) (nM R) = 0 := bn_0.mpr (fun _ _ => rfl)
  have hs : Vv 133 0 17 [some (vR 88 0), some (vI (nI k1)), some (vI (nI k2)), some (vI (nI (bn (fun m => ex (fun y => see R (fal R) (P0 R y k1) m) 0) (nM R)))), some (vI (nI 0))] [] σ = Vv 133 0 17 [some (vR 88 0), some (vI (nI k1)), some (vI (nI k2)), some (vI (nI (bn (fun m => ex (fun y => see R (fal R) (P0 R y k1) m) (k2 + 1)) (nM R)))), some (vI (nI (k2 + 1)))] [] σ := hs
  rw [e0] at hs
  refine Eq.trans hs ?_
  rw [v_H_seen_17, if_neg (nI_ge (by omega) (by omega))]
theorem t_joy {σ : St} {R : RF} (h : HV σ R) (a1 a2 : Int32) : RH 134 [vI a1, vI a2] σ (vI (cond (inB a1 (nL R) && yB R a2) (nI (jy R (see R (fal R)) (P0 R) (cl a1) (cl a2))) (-2))) := by
  have hbb := h.1.b
  refine RH_of (by rw [c_H_joy, h_inYear h.1, cI_s, tv_ite]) (fun hq => ?_)
  rw [Bool.and_eq_true] at hq
  obtain ⟨k1, g1, rfl⟩ := inB_e (by omega) hq.1
  obtain ⟨k2, g2, rfl⟩ := yB_e (by omega) hq.2
  rw [k_joyIn h g1 g2, cI_s, cl_n (by omega), cl_n (by omega)]
theorem t_life {σ : St} {R : RF} (h : HV σ R) (a1 : Int32) : RH 135 [vI a1] σ (vI (cond (inB a1 (nL R)) (nI (life R (see R (fal R)) (P0 R) (cl a1))) (-2))) := by
  have hbb := h.1.b
  refine RH_of (by rw [c_H_life, k_has h.1.prL (by omega), cI_s, tv_ite]) (fun hq => ?_)
  obtain ⟨k1, g1, rfl⟩ := inB_e (by omega) hq
  rw [k_life h g1, cI_s, cl_n (by omega)]
theorem t_sad {σ : St} {R : RF} (h : HV σ R) : RH 136 [] σ (vI (cond (decide (0 < nN R)) (oI (am (fun _ => true) (fun b l => decide (life R (see R (fal R)) (P0 R) l < life R (see R (fal R)) (P0 R) b)) (nL R))) (-2))) := by
  have hbb := h.1.b
  refine RH_of (by rw [c_H_sad, h_isTold h.1, cI_s, tv_ite]) (fun hq => ?_)
  have hs := lpU (V := fun j => Vv 136 0 19 [some (vR 88 0), some (vI (oI (am (fun _ => true) (fun b l => decide (life R (see R (fal R)) (P0 R) l < life R (see R (fal R)) (P0 R) b)) j))), some (vI (match am (fun _ => true) (fun b l => decide (life R (see R (fal R)) (P0 R) l < life R (see R (fal R)) (P0 R) b)) j with | none => 0 | some b => nI (life R (see R (fal R)) (P0 R) b))), some (vI (nI j)), none] [] σ) (n := nL R) (fun j hj => by
    show Vv _ _ _ _ _ _ = Vv _ _ _ _ _ _
    have w1 := life_le h.1.1 (see R (fal R)) (P0 R) j
    rw [v_H_sad_19, h.1.prL.1, if_pos (nI_lt hj (by omega)), k_life h hj, cI_s, nI_1, am_s]
    cases hq : am (fun _ => true) (fun b l => decide (life R (see R (fal R)) (P0 R) l < life R (see R (fal R)) (P0 R) b)) j with
    | none =>
      show (if (-1 : Int32) = -1 then _ else _) = _
      rw [if_pos rfl]
      rfl
    | some b =>
      have hb := (am_in hq).1
      have w2 := life_le h.1.1 (see R (fal R)) (P0 R) b
      show (if nI b = -1 then _ else if nI (life R (see R (fal R)) (P0 R) j) < nI (life R (see R (fal R)) (P0 R) b) then _ else _) = _
      rw [if_neg (nn1 (by omega)), lt_c (by omega) (by omega)]
      dsimp only
      rw [Bool.true_and]
      cases decide (life R (see R (fal R)) (P0 R) j < life R (see R (fal R)) (P0 R) b) <;> rfl)
  refine Eq.trans hs ?_
  show Vv _ _ _ _ _ _ = _
  rw [v_H_sad_19, h.1.prL.1, if_neg (nI_nlt (Nat.le_refl _) (by omega))]
theorem t_drill {σ : St} {R : RF} (h : HV σ R) (a1 : Int32) : RH 137 [vI a1] σ (vI (cond (inB a1 (nL R)) (fI (fun y => see R (fal R) (P0 R y (cl a1)) (lh R (cl a1))) (yr R + 1)) (-2))) := by
  have hbb := h.1.b
  refine RH_of (by rw [c_H_drill, k_has h.1.prL (by omega), cI_s, tv_ite]) (fun hq => ?_)
  obtain ⟨k1, g1, rfl⟩ := inB_e (by omega) hq
  rw [k_firstGlad h g1, cI_s, cl_n (by omega)]
theorem t_glad {σ : St} {R : RF} (h : HV σ R) (a1 : Int32) : RH 138 [vI a1] σ (vI (cond (yB R a1) (nI (bn (fun l => see R (fal R) (P0 R (cl a1) l) (lh R l)) (nL R))) (-2))) := by
  have hbb := h.1.b
  refine RH_of (by rw [c_H_glad, h_hasYear h.1, cI_s, tv_ite]) (fun hq => ?_)
  obtain ⟨k1, g1, rfl⟩ := yB_e (by omega) hq
  rw [cl_n (by omega)]
  refine (lpB (V := fun x j => Vv 138 0 18 [some (vR 88 0), some (vI (nI k1)), some (vI x), some (vI (nI j))] [] σ) (P := fun l => see R (fal R) (P0 R k1 l) (lh R l)) (n := nL R) (by omega) (fun j x hj => ?_)).trans ?_
  · show Vv _ _ _ _ _ _ = cond _ (Vv _ _ _ _ _ _) (Vv _ _ _ _ _ _)
    rw [v_H_glad_18, h.1.prL.1, if_pos (nI_lt hj (by omega)), k_seesHope h hj g1, cI_s, tv_ite, nI_1]
  · show Vv _ _ _ _ _ _ = _
    rw [v_H_glad_18, h.1.prL.1, if_neg (nI_nlt (Nat.le_refl _) (by omega))]
theorem t_often {σ : St} {R : RF} (h : HV σ R) (a1 : Int32) : RH 139 [vI a1] σ (vI (cond (inB a1 (nL R)) (nI (cn (fun y => see R (fal R) (P0 R y (cl a1)) (lh R (cl a1))) (yr R + 1))) (-2))) := by
  have hbb := h.1.b
  refine RH_of (by rw [c_H_often, k_has h.1.prL (by omega), cI_s, tv_ite]) (fun hq => ?_)
  obtain ⟨k1, g1, rfl⟩ := inB_e (by omega) hq
  rw [cl_n (by omega)]
  refine (lpC (V := fun x j => Vv 139 0 21 [some (vR 88 0), some (vI (nI k1)), some (vI x), some (vI (nI j))] [] σ) (P := fun y => see R (fal R) (P0 R y k1) (lh R k1)) (n := yr R + 1) (fun j x hj => ?_)).trans ?_
  · show Vv _ _ _ _ _ _ = cond _ (Vv _ _ _ _ _ _) (Vv _ _ _ _ _ _)
    rw [v_H_often_21, h.1.years, if_pos (nI_le (show j ≤ yr R by omega) (by omega)), k_seesHope h g1 (by omega), cI_s, tv_ite, nI_1]
  · show Vv _ _ _ _ _ _ = _
    rw [v_H_often_21, h.1.years, if_neg (nI_ge (by omega) (by omega))]
theorem t_round {σ : St} {R : RF} (h : HV σ R) : RH 140 [] σ (vI (cond (decide (0 < nN R)) (fJ (fun y => !ex (fun l => !decide (P0 R y l = P0 R 0 l)) (nL R)) (yr R)) (-2))) := by
  have hbb := h.1.b
  refine RH_of (by rw [c_H_round, h_isTold h.1, cI_s, tv_ite]) (fun hq => ?_)
  have hs := lpF (V := fun j => Vv 140 0 15 [some (vR 88 0), some (vI (nI j))] [] σ) (P := fun y => !ex (fun l => !decide (P0 R y l = P0 R 0 l)) (nL R)) (r := fun j => some (some (vI (nI j)), σ)) (yr R) 1 (fun j j1 j2 => by
    show Vv _ _ _ _ _ _ = _
    have := k_isAlike h (y := 0) (z := j) (by omega) (by omega)
    rw [q_0] at this
    have e : ex (fun l => !decide (P0 R 0 l = P0 R j l)) (nL R) = ex (fun l => !decide (P0 R j l = P0 R 0 l)) (nL R) := ex_congr (fun l _ => by rw [decide_eq_decide.mpr ⟨Eq.symm, Eq.symm⟩])
    rw [v_H_round_15, h.1.years, if_pos (nI_le (show j ≤ yr R by omega) (by omega)), this, cI_s, tv_ite, nI_1, e])
  refine Eq.trans hs ?_
  have he : Vv 140 0 15 [some (vR 88 0), some (vI (nI (1 + yr R)))] [] σ = some (some (vI (-1)), σ) := by
    rw [v_H_round_15, h.1.years, if_neg (nI_ge (by omega) (by omega))]
  show cond _ _ (Vv _ _ _ _ _ _) = _
  rw [he]
  unfold fJ
  cases decide (fr (fun y => !ex (fun l => !decide (P0 R y l = P0 R 0 l)) (nL R)) (yr R) 1 < 1 + yr R) <;> rfl
theorem t_walks {σ : St} {R : RF} (h : HV σ R) (a1 : Int32) : RH 141 [vI a1] σ (vI (cond (inB a1 (nL R)) (nI (bn (fun p => ex (fun y => decide (P0 R y (cl a1) = p)) (yr R + 1)) (nP R))) (-2))) := by
  have hbb := h.1.b
  refine RH_of (by rw [c_H_walks, k_has h.1.prL (by omega), cI_s, tv_ite]) (fun hq => ?_)
  obtain ⟨k1, g1, rfl⟩ := inB_e (by omega) hq
  rw [cl_n (by omega)]
  have hs := lpU (V := fun j => Vv 141 0 21 [some (vR 88 0), some (vI (nI k1)), some (vI (nI (bn (fun p => ex (fun y => decide (P0 R y k1 = p)) j) (nP R)))), some (vI (nI j))] [] σ) (n := yr R + 1) (fun j hj => by
    show Vv _ _ _ _ _ _ = Vv _ _ _ _ _ _
    rw [v_H_walks_21, h.1.years, if_pos (nI_le (show j ≤ yr R by omega) (by omega)), k_spot h g1 (by omega), cI_s, bn_orK (by omega) ((h.2.2.2 j).1 k1 g1), nI_1]
    refine congrArg (fun z => Vv 141 0 21 [some (vR 88 0), some (vI (nI k1)), some (vI (nI z)), some (vI (nI (j + 1)))] [] σ) (bn_congr (fun m _ => ?_))
    rw [ex_succ]
    congr 1
    exact decide_eq_decide.mpr ⟨Eq.symm, Eq.symm⟩)
  have e0 : bn (fun p => ex (fun y => decide (P0 R y k1 = p)) 0) (nP R) = 0 := bn_0.mpr (fun _ _ => rfl)
  have hs : Vv 141 0 21 [some (vR 88 0), some (vI (nI k1)), some (vI (nI (bn (fun p => ex (fun y => decide (P0 R y k1 = p)) 0) (nP R)))), some (vI (nI 0))] [] σ = Vv 141 0 21 [some (vR 88 0), some (vI (nI k1)), some (vI (nI (bn (fun p => ex (fun y => decide (P0 R y k1 = p)) (yr R + 1)) (nP R)))), some (vI (nI (yr R + 1)))] [] σ := hs
  rw [e0] at hs
  refine Eq.trans hs ?_
  rw [v_H_walks_21, h.1.years, if_neg (nI_ge (by omega) (by omega))]
theorem t_feast {σ : St} {R : RF} (h : HV σ R) : RH 142 [] σ (vI (cond (decide (0 < nN R)) (oI (am (fun _ => true) (fun b y => decide (joyY R (see R (fal R)) (P0 R) b < joyY R (see R (fal R)) (P0 R) y)) (yr R + 1))) (-2))) := by
  have hbb := h.1.b
  refine RH_of (by rw [c_H_feast, h_isTold h.1, cI_s, tv_ite]) (fun hq => ?_)
  refine (lpA1 (V := fun x j => Vv 142 0 17 [some (vR 88 0), some (vI x), some (vI (nI j))] [] σ) (lt := fun b y => decide (joyY R (see R (fal R)) (P0 R) b < joyY R (see R (fal R)) (P0 R) y)) (n := yr R + 1) (by omega) (fun j b j1 hj hb => ?_)).trans ?_
  · show Vv _ _ _ _ _ _ = _
    have w1 := joyY_le h.1.1 (see R (fal R)) (P0 R) j
    have w2 := joyY_le h.1.1 (see R (fal R)) (P0 R) b
    rw [v_H_feast_17, h.1.years, if_pos (nI_le (show j ≤ yr R by omega) (by omega)), k_joyY h (by omega), cI_s, k_joyY h (show b ≤ yr R by omega), cI_s, nI_1, le_lt (by omega) (by omega)]
  · show Vv _ _ _ _ _ _ = _
    rw [v_H_feast_17, h.1.years, if_neg (nI_ge (by omega) (by omega))]
theorem t_envies {σ : St} {R : RF} (h : HV σ R) (a1 a2 : Int32) : RH 143 [vI a1, vI a2] σ (vI (cond (inB a1 (nL R) && yB R a2) (nI (bn (fun k => decide (wth R (see R (fal R) (P0 R (cl a2) (cl a1))) < wth R (see R (fal R) (P0 R (cl a2) k)))) (nL R))) (-2))) := by
  have hbb := h.1.b
  refine RH_of (by rw [c_H_envies, h_inYear h.1, cI_s, tv_ite]) (fun hq => ?_)
  rw [Bool.and_eq_true] at hq
  obtain ⟨k1, g1, rfl⟩ := inB_e (by omega) hq.1
  obtain ⟨k2, g2, rfl⟩ := yB_e (by omega) hq.2
  have w1 := wth_le h.1.1 (see R (fal R) (P0 R k2 k1))
  rw [cl_n (by omega), cl_n (by omega), k_spot h g1 g2, cI_s, k_worthFrom h.1 h.2.1 ((h.2.2.2 k2).1 k1 g1), cI_s]
  refine (lpB (V := fun x j => Vv 143 0 35 [some (vR 88 0), some (vI (nI k1)), some (vI (nI k2)), some (vI (nI (wth R (see R (fal R) (P0 R k2 k1))))), some (vI x), some (vI (nI j))] [] σ) (P := fun k => decide (wth R (see R (fal R) (P0 R k2 k1)) < wth R (see R (fal R) (P0 R k2 k)))) (n := nL R) (by omega) (fun j x hj => ?_)).trans ?_
  · show Vv _ _ _ _ _ _ = cond _ (Vv _ _ _ _ _ _) (Vv _ _ _ _ _ _)
    have w2 := wth_le h.1.1 (see R (fal R) (P0 R k2 j))
    rw [v_H_envies_35, h.1.prL.1, if_pos (nI_lt hj (by omega)), k_spot h hj g2, cI_s, k_worthFrom h.1 h.2.1 ((h.2.2.2 k2).1 j hj), cI_s, nI_1, le_lt (by omega) (by omega)]
  · show Vv _ _ _ _ _ _ = _
    rw [v_H_envies_35, h.1.prL.1, if_neg (nI_nlt (Nat.le_refl _) (by omega))]
theorem h_wouldTrade {σ : St} {R : RF} (h : HV σ R) {a b y : Nat} (ha : a < nL R) (hb : b < nL R) (hy : y ≤ yr R) : Cc 191 0 [vR 88 0, vI (nI a), vI (nI b), vI (nI y)] σ = some (some (vI (tv (!see R (fal R) (P0 R y a) (lh R a) && see R (fal R) (P0 R y b) (lh R a)))), σ) := by
  rw [c_H_wouldTrade, k_lh h.1 ha, cI_s, k_seesHope h ha hy, cI_s, tv_ite, k_spot h hb hy, cI_s, k_isSeen h.1 h.2.1 ((h.2.2.2 y).1 b hb) (h.1.1.2.2.2.2.2.2.1 a ha).2, cI_s, tv_ite, retZ_0, retZ_1]
  cases see R (fal R) (P0 R y a) (lh R a) <;> cases see R (fal R) (P0 R y b) (lh R a) <;> rfl
theorem t_trade {σ : St} {R : RF} (h : HV σ R) (a1 : Int32) : RH 144 [vI a1] σ (vI (cond (yB R a1) (trd R (see R (fal R)) (P0 R (cl a1))) (-2))) := by
  have hbb := h.1.b
  refine RH_of (by rw [c_H_trade, h_hasYear h.1, cI_s, tv_ite]) (fun hq => ?_)
  obtain ⟨k1, g1, rfl⟩ := yB_e (by omega) hq
  rw [cl_n (by omega)]
  have hin : ∀ a, a < nL R → Vv 144 0 34 [some (vR 88 0), some (vI (nI k1)), some (vI (nI a)), some (vI (nI (a + 1)))] [] σ = cond (trE R (see R (fal R)) (P0 R k1) a) (some (some (vI ((10 : Int32) * nI a + nI (trF R (see R (fal R)) (P0 R k1) a))), σ)) (Vv 144 0 16 [some (vR 88 0), some (vI (nI k1)), some (vI (nI (a + 1))), none] [] σ) := fun a ha => by
    have hs := lpF (V := fun b => Vv 144 0 34 [some (vR 88 0), some (vI (nI k1)), some (vI (nI a)), some (vI (nI b))] [] σ) (P := trB R (see R (fal R)) (P0 R k1) a) (r := fun b => some (some (vI ((10 : Int32) * nI a + nI b)), σ)) (nL R - (a + 1)) (a + 1) (fun b b1 b2 => by
      show Vv _ _ _ _ _ _ = _
      have hb : b < nL R := by omega
      rw [v_H_trade_34, h.1.prL.1, if_pos (nI_lt hb (by omega)), h_wouldTrade h ha hb g1, cI_s, tv_ite, h_wouldTrade h hb ha g1, cI_s, tv_ite, nI_1]
      unfold trB
      cases see R (fal R) (P0 R k1 a) (lh R a) <;> cases see R (fal R) (P0 R k1 b) (lh R b) <;> cases see R (fal R) (P0 R k1 b) (lh R a) <;> cases see R (fal R) (P0 R k1 a) (lh R b) <;> rfl)
    refine Eq.trans hs ?_
    have he : Vv 144 0 34 [some (vR 88 0), some (vI (nI k1)), some (vI (nI a)), some (vI (nI (a + 1 + (nL R - (a + 1)))))] [] σ = Vv 144 0 16 [some (vR 88 0), some (vI (nI k1)), some (vI (nI (a + 1))), none] [] σ := by
      rw [v_H_trade_34, h.1.prL.1, if_neg (nI_nlt (by omega) (by omega)), nI_1]
    show cond _ _ (Vv _ _ _ _ _ _) = _
    rw [he]
    rfl
  have hs := lpF0 (V := fun a => Vv 144 0 16 [some (vR 88 0), some (vI (nI k1)), some (vI (nI a)), none] [] σ) (P := trE R (see R (fal R)) (P0 R k1)) (r := fun a => some (some (vI ((10 : Int32) * nI a + nI (trF R (see R (fal R)) (P0 R k1) a))), σ)) (nL R) (fun a ha => by
    show Vv _ _ _ _ _ _ = _
    rw [v_H_trade_16, h.1.prL.1, if_pos (nI_lt ha (by omega)), nI_1, hin a ha])
  refine Eq.trans hs ?_
  have he : Vv 144 0 16 [some (vR 88 0), some (vI (nI k1)), some (vI (nI (nL R))), none] [] σ = some (some (vI (-1)), σ) := by
    rw [v_H_trade_16, h.1.prL.1, if_neg (nI_nlt (Nat.le_refl _) (by omega))]
  show cond _ _ (Vv _ _ _ _ _ _) = _
  rw [he]
  unfold trd
  cases ex (trE R (see R (fal R)) (P0 R k1)) (nL R) <;> rfl
