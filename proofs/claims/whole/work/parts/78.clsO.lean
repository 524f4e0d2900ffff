/-! THE CLASS: acts, rate -/
theorem HC_RN {σ : St} {R : RF} (h : HC σ 0 R) {n : Nat} (hn : n ≤ nA R) : HC (sI σ 0 0 3 (nI n)) 0 (RN R n) := by
  obtain ⟨h1, h2, h3, h4, h5, h6, h7, h8', h9, h10, h11, h12⟩ := h
  have hf : Fr (fun t _ _ => Nat.beq t 0) σ (sI σ 0 0 3 (nI n)) := Fr.rf.sI rfl
  have e : ∀ j, j ≠ 8 → RN R n 0 j = R 0 j := fun j hj => by rw [RN_0, if_neg hj]
  have ex := fun x (h0 : x ≠ 0) => funext (fun j => RN_x R n (x := x) h0 j)
  have ea : ∀ {q n' : Nat} {f g : Nat → Nat}, PR σ q n' f g → PR (sI σ 0 0 3 (nI n)) q n' f g := fun hp => ⟨(hf.i rfl).trans hp.1, fun i hi => ⟨(hf.i rfl).trans (hp.2 i hi).1, (hf.i rfl).trans (hp.2 i hi).2⟩⟩
  refine ⟨?_, ?_, ?_, ?_, ?_, ?_, ?_, ?_, ?_, ?_, ?_, ?_⟩
  · rw [hf.i rfl, h1]; exact congrArg nI (e 0 (by omega)).symm
  · rw [hf.i rfl, h2]; exact congrArg nI (e 1 (by omega)).symm
  · rw [hf.i rfl, h3]; exact congrArg nI (e 2 (by omega)).symm
  · rw [hf.i rfl, h4]; exact congrArg nI (e 9 (by omega)).symm
  · show PR _ (5 * 0) (RN R n 0 3) (RN R n 1) (RN R n 2)
    rw [e 3 (by omega), ex 1 (by omega), ex 2 (by omega)]
    exact ea h5
  · show PR _ (5 * 0 + 1) (RN R n 0 4) (RN R n 3) (RN R n 4)
    rw [e 4 (by omega), ex 3 (by omega), ex 4 (by omega)]
    exact ea h6
  · show PR _ (5 * 0 + 2) (RN R n 0 5) (RN R n 6) (RN R n 7)
    rw [e 5 (by omega), ex 6 (by omega), ex 7 (by omega)]
    exact ea h7
  · show PR _ (5 * 0 + 3) (RN R n 0 6) (RN R n 8) (RN R n 9)
    rw [e 6 (by omega), ex 8 (by omega), ex 9 (by omega)]
    exact ea h8'
  · show PR _ (5 * 0 + 4) (RN R n 0 7) (RN R n 10) (RN R n 11)
    rw [e 7 (by omega), ex 10 (by omega), ex 11 (by omega)]
    exact ea h9
  · intro m hm
    have hm : m < nM R := Nat.lt_of_lt_of_eq hm (e 4 (by omega))
    show gI _ 3705 0 m = nI (RN R n 5 m)
    rw [ex 5 (by omega), hf.i rfl]
    exact h10 m hm
  · rw [gI_sIs]; exact congrArg nI (show RN R n 0 8 = n by rw [RN_0, if_pos rfl]).symm
  · intro i hi
    have hi : i < n := Nat.lt_of_lt_of_eq hi (show RN R n 0 8 = n by rw [RN_0, if_pos rfl])
    show gI _ 15489 0 i = nI (RN R n 13 i) ∧ (RN R n 12 i = 1 → gI _ 15505 0 i = -1) ∧ (RN R n 12 i ≠ 1 → gI _ 15497 0 i = nI (RN R n 14 i) ∧ gI _ 15505 0 i = nI (RN R n 15 i))
    rw [ex 12 (by omega), ex 13 (by omega), ex 14 (by omega), ex 15 (by omega), hf.i rfl, hf.i rfl, hf.i rfl]
    exact h12 i (by omega)
theorem HC_R5 {σ : St} {R : RF} (h : HC σ 0 R) (m v : Nat) : HC (sI σ 3705 0 m (nI v)) 0 (R1 R 5 m v) := by
  obtain ⟨h1, h2, h3, h4, h5, h6, h7, h8', h9, h10, h11, h12⟩ := h
  have hf : Fr (fun t _ _ => Nat.beq t 3705) σ (sI σ 3705 0 m (nI v)) := Fr.rf.sI rfl
  have ex := fun x (hx : x ≠ 5) => funext (fun j => R1_x R (a := 5) (b := m) (v := v) hx j)
  have ea : ∀ {q n' : Nat} {f g : Nat → Nat}, PR σ q n' f g → PR (sI σ 3705 0 m (nI v)) q n' f g := fun hp => ⟨(hf.i rfl).trans hp.1, fun i hi => ⟨(hf.i rfl).trans (hp.2 i hi).1, (hf.i rfl).trans (hp.2 i hi).2⟩⟩
  simp only [HC, nP, nM, nF, nW, nL, nA, nN, yr, lw, od, mw, ak, aa, ab, ay, R1_a]
  have px' : px (R1 R 5 m v) = px R := ex 1 (by omega)
  have py' : py (R1 R 5 m v) = py R := ex 2 (by omega)
  have mx' : mx (R1 R 5 m v) = mx R := ex 3 (by omega)
  have my' : my (R1 R 5 m v) = my R := ex 4 (by omega)
  have fx' : fx (R1 R 5 m v) = fx R := ex 6 (by omega)
  have fy' : fy (R1 R 5 m v) = fy R := ex 7 (by omega)
  have wa' : wa (R1 R 5 m v) = wa R := ex 8 (by omega)
  have wb' : wb (R1 R 5 m v) = wb R := ex 9 (by omega)
  have lp' : lp (R1 R 5 m v) = lp R := ex 10 (by omega)
  have lh' : lh (R1 R 5 m v) = lh R := ex 11 (by omega)
  rw [px', py', mx', my', fx', fy', wa', wb', lp', lh', ex 0 (by omega), ex 12 (by omega), ex 13 (by omega), ex 14 (by omega), ex 15 (by omega)]
  refine ⟨(hf.i rfl).trans h1, (hf.i rfl).trans h2, (hf.i rfl).trans h3, (hf.i rfl).trans h4, ea h5, ea h6, ea h7, ea h8', ea h9, fun q hq => ?_, (hf.i rfl).trans h11, fun i hi => ?_⟩
  · by_cases hqm : q = m
    · rw [if_pos hqm, hqm]
      exact gI_sIs _ _ _ _ _
    · rw [if_neg hqm, gI_sIj hqm]
      exact h10 q hq
  · rw [hf.i rfl, hf.i rfl, hf.i rfl]
    exact h12 i hi
theorem u_swap {σ : St} {S : AZ} (h : JC σ S) (a1 a2 a3 : Int32) : RCS 169 [vI a1, vI a2, vI a3] σ (vI (Z_swap S a1 a2 a3).1) (Z_swap S a1 a2 a3).2 := by
  have h1 := h.1.1
  have hbb := h1.b
  unfold Z_swap RCS
  rw [c_H_swap, h_areTwo h1, cI_s, tv_ite, h_hasYear h1, cI_s, tv_ite, h1.years]
  cases ht : twB (zR S) a1 a2
  · exact ⟨_, rfl, Fr.rf, h⟩
  · rw [Bool.true_and, cond_true]
    cases hy : inB a3 (yr (zR S))
    · refine ⟨σ, ?_, Fr.rf, h⟩
      cases hyy : yB (zR S) a3
      · rfl
      · unfold yB at hyy
        rw [Bool.and_eq_true] at hyy
        obtain ⟨y, hy1, rfl⟩ := inB_e (by omega) hyy.2
        by_cases hy2 : y < yr (zR S)
        · rw [inB_n hy2 (by omega)] at hy
          cases hy
        · rw [cond_true, if_pos (by rw [show y = yr (zR S) by omega])]
          rfl
    · unfold twB at ht
      simp only [Bool.and_eq_true] at ht
      obtain ⟨a, ha, rfl⟩ := inB_e (by omega) ht.1.1
      obtain ⟨b, hb2, rfl⟩ := inB_e (by omega) ht.1.2
      obtain ⟨y, hy1, rfl⟩ := inB_e (by omega) hy
      have hab : a ≠ b := fun z => by
        have := ht.2
        rw [z] at this
        simp at this
      have hyB : yB (zR S) (nI y) = true := by
        unfold yB
        rw [inB_n (by omega) (by omega), decide_eq_true (nLN h1.1 ha)]; rfl
      have hne : ¬ nI y = nI (yr (zR S)) := fun z => absurd ((nI_eq (by omega) (by omega)).mp z) (by omega)
      rw [hyB, cond_true, cond_true, if_neg hne]
      by_cases hA : nA (zR S) = 30
      · rw [k_full (by rw [h1.A, hA]), cI_s, tv_ite, decide_eq_true hA]
        exact ⟨_, rfl, Fr.rf, h⟩
      · obtain ⟨σ2, c2, f2, d8, dj, d1, d2, d3⟩ := k_act h1 (show nA (zR S) < 30 by omega) (nI a) (nI b) (nI y)
        have hW : WF (RA (zR S) 0 a b y) := WF_RA h1.1 (by omega) (nLN h1.1 ha) ⟨fun z => by omega, fun _ => ⟨ha, hb2, hab, hy1⟩⟩
        have hR : K0 σ2 (RA (zR S) 0 a b y) := ⟨hW, HC_RA h1.2 f2 d8 dj ⟨d1, fun z => by omega, fun _ => ⟨d2, d3⟩⟩⟩
        obtain ⟨σ3, c3, f3, v3⟩ := h_lookAnew hR
        have hF := (rf_mv (aq_rf f2)).tr (la_mv f3)
        have hyr : yr (RA (zR S) 0 a b y) = yr (zR S) := has_e (zR S) 0 a b y 0 (by omega) (by omega)
        have hnl : nL (RA (zR S) 0 a b y) = nL (zR S) := has_e (zR S) 0 a b y 7 (by omega) (by omega)
        rw [decide_eq_false hA, cond_false, cl_n (show a < 2 ^ 31 by omega), cl_n (show b < 2 ^ 31 by omega), cl_n (show y < 2 ^ 31 by omega)]
        refine ⟨σ3, ?_, mv_cl hF, JC_mv h hF v3⟩
        rw [k_notFull h1.A (by omega), cI_s, tv_ite, cond_false, c2, cV_s, c3, cV_s, v3.1.years, k_spot v3 (by omega) (by omega), cI_s, hyr]
theorem u_clear {σ : St} {S : AZ} (h : JC σ S) (a1 : Int32) : RCS 170 [vI a1] σ (vI (Z_clear S a1).1) (Z_clear S a1).2 := by
  have h1 := h.1.1
  have hbb := h1.b
  unfold Z_clear RCS
  rw [c_H_clear, k_has h1.prF (by omega), cI_s, tv_ite]
  cases hb : inB a1 (nF (zR S))
  · exact ⟨_, rfl, Fr.rf, h⟩
  · obtain ⟨a, ha, rfl⟩ := inB_e (by omega) hb
    rw [cond_true, cond_true]
    by_cases hA : nA (zR S) = 30
    · rw [k_full (by rw [h1.A, hA]), cI_s, tv_ite, decide_eq_true hA]
      exact ⟨_, rfl, Fr.rf, h⟩
    · obtain ⟨σ2, c2, f2, d8, dj, d1, d2, d3⟩ := k_act h1 (show nA (zR S) < 30 by omega) (nI a) (-1) (-1)
      have hW : WF (RA (zR S) 1 a 0 0) := WF_RA h1.1 (by omega) (nFN h1.1 ha) ⟨fun _ => ha, fun z => absurd rfl z⟩
      have hR : K0 σ2 (RA (zR S) 1 a 0 0) := ⟨hW, HC_RA h1.2 f2 d8 dj ⟨d1, fun _ => d3, fun z => absurd rfl z⟩⟩
      obtain ⟨σ3, c3, f3, v3⟩ := h_lookAnew hR
      have hF := (rf_mv (aq_rf f2)).tr (la_mv f3)
      rw [decide_eq_false hA, cond_false, cl_n (show a < 2 ^ 31 by omega)]
      refine ⟨σ3, ?_, mv_cl hF, JC_mv h hF v3⟩
      rw [k_notFull h1.A (by omega), cI_s, tv_ite, cond_false, k_isFallen h1 (by omega), cI_s, tv_ite, c_Acts_addFelling, c2, cV_s]
      cases fal (zR S) a
      · rw [cond_false, cV_s, c3]; rfl
      · rw [cond_true, cV_s, c3]; rfl
theorem u_undo {σ : St} {S : AZ} (h : JC σ S) : RCS 171 [] σ (vI (Z_undo S).1) (Z_undo S).2 := by
  have h1 := h.1.1
  have hbb := h1.b
  unfold Z_undo RCS
  rw [c_H_undo, h_isTold h1, cI_s, tv_ite]
  cases hb : decide (0 < nN (zR S))
  · exact ⟨_, rfl, Fr.rf, h⟩
  · rw [cond_true, cond_true, h1.A]
    by_cases hA : nA (zR S) = 0
    · rw [if_pos (by rw [hA]; rfl), decide_eq_true hA]
      exact ⟨_, rfl, Fr.rf, h⟩
    · have e1 : nI (nA (zR S)) - 1 = nI (nA (zR S) - 1) := pk_sub (b := 1) (by omega)
      have hR : K0 (sI σ 0 0 3 (nI (nA (zR S) - 1))) (RN (zR S) (nA (zR S) - 1)) := ⟨WF_RN h1.1 (by omega), HC_RN h1.2 (by omega)⟩
      obtain ⟨σ3, c3, f3, v3⟩ := h_lookAnew hR
      have f2 : Fr (aqC 0) σ (sI σ 0 0 3 (nI (nA (zR S) - 1))) := Fr.rf.sI rfl
      have hF := (rf_mv (aq_rf f2)).tr (la_mv f3)
      rw [if_neg (nI_ne0 (by omega) (by omega)), decide_eq_false hA, cond_false, e1]
      refine ⟨σ3, ?_, mv_cl hF, JC_mv h hF v3⟩
      rw [c3, cV_s, f3.i rfl, gI_sIs]
theorem u_anew {σ : St} {S : AZ} (h : JC σ S) : RCS 172 [] σ (vI (Z_anew S).1) (Z_anew S).2 := by
  have h1 := h.1.1
  unfold Z_anew RCS
  rw [c_H_anew, h_isTold h1, cI_s, tv_ite]
  cases hb : decide (0 < nN (zR S))
  · exact ⟨_, rfl, Fr.rf, h⟩
  · rw [cond_true, cond_true, h1.A]
    have hR : K0 (sI σ 0 0 3 (nI 0)) (RN (zR S) 0) := ⟨WF_RN h1.1 (by omega), HC_RN h1.2 (by omega)⟩
    obtain ⟨σ3, c3, f3, v3⟩ := h_lookAnew hR
    have f2 : Fr (aqC 0) σ (sI σ 0 0 3 (nI 0)) := Fr.rf.sI rfl
    have hF := (rf_mv (aq_rf f2)).tr (la_mv f3)
    refine ⟨σ3, ?_, mv_cl hF, JC_mv h hF v3⟩
    rw [show (0 : Int32) = nI 0 from rfl, c3, cV_s]
theorem u_rate {σ : St} {S : AZ} (h : JC σ S) (a1 a2 : Int32) : RCS 175 [vI a1, vI a2] σ (vI (Z_rate S a1 a2).1) (Z_rate S a1 a2).2 := by
  have h1 := h.1.1
  have hbb := h1.b
  unfold Z_rate RCS
  rw [c_H_rate, k_has h1.prM (by omega), cI_s, tv_ite, show (99 : Int32) = nI 99 from rfl, inB_if2 a2 (by omega), cond_and]
  show ∃ σ', cond (inB a1 (nM (zR S)) && inB a2 100) _ _ = _ ∧ _
  cases hb : inB a1 (nM (zR S)) && inB a2 100
  · exact ⟨_, rfl, Fr.rf, h⟩
  · rw [Bool.and_eq_true] at hb
    obtain ⟨m, hm, rfl⟩ := inB_e (by omega) hb.1
    obtain ⟨v, hv, rfl⟩ := inB_e (by omega) hb.2
    rw [cond_true, cond_true, h1.A, cl_n (by omega), cl_n (by omega)]
    by_cases hA : 0 < nA (zR S)
    · rw [if_neg (show ¬ nI (nA (zR S)) ≤ (0 : Int32) from nI_ge (a := 0) hA (by omega)), decide_eq_true hA]
      exact ⟨_, rfl, Fr.rf, h⟩
    · have hR : K0 (sI σ 3705 0 m (nI v)) (R1 (zR S) 5 m v) := ⟨WF_R5 h1.1 (by omega), HC_R5 h1.2 m v⟩
      obtain ⟨σ3, c3, f3, v3⟩ := h_lookAnew hR
      have f2 : Fr (rfC 0) σ (sI σ 3705 0 m (nI v)) := Fr.rf.sI rfl
      have hF := (rf_mv f2).tr (la_mv f3)
      have hA0 : nA (zR S) = 0 := by omega
      have hz : nI (nA (zR S)) ≤ (0 : Int32) := by rw [hA0]; decide
      have hh : Cc 44 0 [vR 32 (5 * 0 + 1), vI (nI m)] σ = some (some (vI (tv true)), σ) := by rw [← inB_n hm (by omega)]; exact k_has h1.prM (by omega) _
      rw [if_pos hz, decide_eq_false hA, cond_false]
      refine ⟨σ3, ?_, mv_cl hF, JC_mv h hF v3⟩
      rw [c_Roof_worthOfMark, hh, cI_s, tv_ite, cond_true, ix_nI (by omega) (by omega), h1.mw hm, cI_s, c_Roof_setWorth, hh, cI_s, tv_ite, cond_true, ix_nI (by omega) (by omega), cV_s, c3, cV_s]
