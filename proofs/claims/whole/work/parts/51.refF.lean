/-! THE REFERENCE'S ANSWERS: trade, what is told, what is seen -/
/-- two who would change -/
def trB (R : RF) (s : Nat → Nat → Bool) (f : Nat → Nat) (a b : Nat) : Bool := !s (f a) (lh R a) && (!s (f b) (lh R b) && (s (f b) (lh R a) && s (f a) (lh R b)))
def trF (R : RF) (s : Nat → Nat → Bool) (f : Nat → Nat) (a : Nat) : Nat := fr (trB R s f a) (nL R - (a + 1)) (a + 1)
def trE (R : RF) (s : Nat → Nat → Bool) (f : Nat → Nat) (a : Nat) : Bool := decide (trF R s f a < a + 1 + (nL R - (a + 1)))
def trd (R : RF) (s : Nat → Nat → Bool) (f : Nat → Nat) : Int32 := cond (ex (trE R s f) (nL R)) ((10 : Int32) * nI (fr (trE R s f) (nL R) 0) + nI (trF R s f (fr (trE R s f) (nL R) 0))) (-1)
theorem m_trade {σ : St} {R : RF} (h : H0 σ R) (a1 : Int32) : RM 307 [vI a1] σ (vI (cond (yB R a1) (trd R (see R (fal R)) (P0 R (cl a1))) (-2))) := by
  have hbb := h.b
  have h1 := thr_H h
  obtain ⟨σ3, c3, f3, v3⟩ := s_laysNow h1
  refine RM_of (by rw [c_M_trade, r_isYear h1, cI_s, tv_ite, c3, cV_s]) (thr_F σ) (fun hq => ⟨σ3, ?_, f3⟩)
  obtain ⟨k1, g1, rfl⟩ := yB_e (by omega) hq
  rw [cl_n (by omega)]
  have hin : ∀ a, a < nL R → Vv 307 0 35 [some (vR 96 0), some (vI (nI k1)), some (vI (nI a)), some (vI (nI (a + 1))), none, none] [] σ3 = cond (trE R (see R (fal R)) (P0 R k1) a) (some (some (vI ((10 : Int32) * nI a + nI (trF R (see R (fal R)) (P0 R k1) a))), σ3)) (Vv 307 0 23 [some (vR 96 0), some (vI (nI k1)), some (vI (nI (a + 1))), none, none, none] [] σ3) := fun a ha => by
    have hs := lpF (V := fun b => Vv 307 0 35 [some (vR 96 0), some (vI (nI k1)), some (vI (nI a)), some (vI (nI b)), none, none] [] σ3) (P := trB R (see R (fal R)) (P0 R k1) a) (r := fun b => some (some (vI ((10 : Int32) * nI a + nI b)), σ3)) (nL R - (a + 1)) (a + 1) (fun b b1 b2 => by
      show Vv _ _ _ _ _ _ = _
      have hb : b < nL R := by omega
      have p1 := (v3.2.2.2 k1).1 a ha
      have p2 := (v3.2.2.2 k1).1 b hb
      rw [v_M_trade_35, cI_L v3.1, if_pos (nI_lt hb (by omega)), six_n, nI_add, nI_add, ix_nI (by omega) (by omega), ix_nI (by omega) (by omega), v3.2.2.1 k1 (by omega) a ha, v3.2.2.1 k1 (by omega) b hb, s_isGlad v3.1 v3.2.1 ha p1, cI_s, tv_ite, s_isGlad v3.1 v3.2.1 hb p2, cI_s, tv_ite, s_isGlad v3.1 v3.2.1 ha p2, cI_s, tv_ite, s_isGlad v3.1 v3.2.1 hb p1, cI_s, tv_ite, nI_1]
      unfold trB
      cases see R (fal R) (P0 R k1 a) (lh R a) <;> cases see R (fal R) (P0 R k1 b) (lh R b) <;> cases see R (fal R) (P0 R k1 b) (lh R a) <;> cases see R (fal R) (P0 R k1 a) (lh R b) <;> rfl)
    refine Eq.trans hs ?_
    have he : Vv 307 0 35 [some (vR 96 0), some (vI (nI k1)), some (vI (nI a)), some (vI (nI (a + 1 + (nL R - (a + 1))))), none, none] [] σ3 = Vv 307 0 23 [some (vR 96 0), some (vI (nI k1)), some (vI (nI (a + 1))), none, none, none] [] σ3 := by
      rw [v_M_trade_35, cI_L v3.1, if_neg (nI_nlt (by omega) (by omega)), nI_1]
    show cond _ _ (Vv _ _ _ _ _ _) = _
    rw [he]
    rfl
  have hs := lpF0 (V := fun a => Vv 307 0 23 [some (vR 96 0), some (vI (nI k1)), some (vI (nI a)), none, none, none] [] σ3) (P := trE R (see R (fal R)) (P0 R k1)) (r := fun a => some (some (vI ((10 : Int32) * nI a + nI (trF R (see R (fal R)) (P0 R k1) a))), σ3)) (nL R) (fun a ha => by
    show Vv _ _ _ _ _ _ = _
    rw [v_M_trade_23, cI_L v3.1, if_pos (nI_lt ha (by omega)), nI_1, hin a ha])
  refine Eq.trans hs ?_
  have he : Vv 307 0 23 [some (vR 96 0), some (vI (nI k1)), some (vI (nI (nL R))), none, none, none] [] σ3 = some (some (vI (-1)), σ3) := by
    rw [v_M_trade_23, cI_L v3.1, if_neg (nI_nlt (Nat.le_refl _) (by omega))]
  show cond _ _ (Vv _ _ _ _ _ _) = _
  rw [he]
  unfold trd
  cases ex (trE R (see R (fal R)) (P0 R k1)) (nL R) <;> rfl
/-- one of two -/
def tw (a : Int32) (x y : Nat) : Int32 := cond (decide (cl a = 0)) (nI x) (nI y)
theorem half_e {a : Int32} (h : inB a 2 = true) : a = nI 0 ∨ a = nI 1 := by
  obtain ⟨k, h1, h2⟩ := inB_e (by omega) h
  have : k = 0 ∨ k = 1 := by omega
  rcases this with rfl | rfl
  · exact Or.inl h2
  · exact Or.inr h2
theorem m_place {σ : St} {R : RF} (h : H0 σ R) (a1 a2 : Int32) : RM 278 [vI a1, vI a2] σ (vI (cond (inB a1 (nP R) && inB a2 2) (tw a2 (px R (cl a1)) (py R (cl a1))) (-2))) := by
  have hbb := h.b
  have h1 := thr_H h
  refine RM_of (by rw [c_M_place, r_isPlace h1, cI_s, tv_ite, r_isHalf, cI_s, tv_ite, cond_and]) (thr_F σ) (fun hq => ⟨_, ?_, Fr.rf⟩)
  rw [Bool.and_eq_true] at hq
  obtain ⟨k1, g1, rfl⟩ := inB_e (by omega) hq.1
  rw [two_n, cl_n (by omega)]
  rcases half_e hq.2 with rfl | rfl
  · rw [nI_add, ix_nI (by omega) (by omega)]
    exact congrArg (fun z => some (some (vI z), sI σ 96 0 0 0)) (h1.px g1)
  · rw [nI_add, ix_nI (by omega) (by omega)]
    exact congrArg (fun z => some (some (vI z), sI σ 96 0 0 0)) (h1.py g1)
theorem m_looker {σ : St} {R : RF} (h : H0 σ R) (a1 a2 : Int32) : RM 281 [vI a1, vI a2] σ (vI (cond (inB a1 (nL R) && inB a2 2) (tw a2 (lp R (cl a1)) (lh R (cl a1))) (-2))) := by
  have hbb := h.b
  have h1 := thr_H h
  refine RM_of (by rw [c_M_looker, r_isMan h1, cI_s, tv_ite, r_isHalf, cI_s, tv_ite, cond_and]) (thr_F σ) (fun hq => ⟨_, ?_, Fr.rf⟩)
  rw [Bool.and_eq_true] at hq
  obtain ⟨k1, g1, rfl⟩ := inB_e (by omega) hq.1
  rw [two_n, cl_n (by omega)]
  rcases half_e hq.2 with rfl | rfl
  · rw [nI_add, ix_nI (by omega) (by omega)]
    exact congrArg (fun z => some (some (vI z), sI σ 96 0 0 0)) (h1.lp g1)
  · rw [nI_add, ix_nI (by omega) (by omega)]
    exact congrArg (fun z => some (some (vI z), sI σ 96 0 0 0)) (h1.lh g1)
/-- one of three -/
def t3 (a : Int32) (x y : Nat) (z : Int32) : Int32 := cond (decide (cl a = 2)) z (tw a x y)
theorem three_e {a : Int32} (h : inB a 3 = true) : a = nI 0 ∨ a = nI 1 ∨ a = nI 2 := by
  obtain ⟨k, h1, h2⟩ := inB_e (by omega) h
  have : k = 0 ∨ k = 1 ∨ k = 2 := by omega
  rcases this with rfl | rfl | rfl
  · exact Or.inl h2
  · exact Or.inr (Or.inl h2)
  · exact Or.inr (Or.inr h2)
theorem m_mark {σ : St} {R : RF} (h : H0 σ R) (a1 a2 : Int32) : RM 279 [vI a1, vI a2] σ (vI (cond (inB a1 (nM R) && inB a2 3) (t3 a2 (mx R (cl a1)) (my R (cl a1)) (nI (mw R (cl a1)))) (-2))) := by
  have hbb := h.b
  have h1 := thr_H h
  refine RM_of (by rw [c_M_mark, r_isMark h1, cI_s, tv_ite, s_in, inB_k a2 2 2 rfl, cI_s, tv_ite, cond_and]) (thr_F σ) (fun hq => ⟨_, ?_, Fr.rf⟩)
  rw [Bool.and_eq_true] at hq
  obtain ⟨k1, g1, rfl⟩ := inB_e (by omega) hq.1
  rw [two_n, cl_n (by omega)]
  rcases three_e hq.2 with rfl | rfl | rfl
  · rw [if_neg (by decide), nI_add, ix_nI (by omega) (by omega)]
    exact congrArg (fun z => some (some (vI z), sI σ 96 0 0 0)) (h1.mx g1)
  · rw [if_neg (by decide), nI_add, ix_nI (by omega) (by omega)]
    exact congrArg (fun z => some (some (vI z), sI σ 96 0 0 0)) (h1.my g1)
  · rw [if_pos q_2, ix_nI (by omega) (by omega)]
    exact congrArg (fun z => some (some (vI z), sI σ 96 0 0 0)) (h1.mw g1)
theorem m_flue {σ : St} {R : RF} (h : H0 σ R) (a1 a2 : Int32) : RM 280 [vI a1, vI a2] σ (vI (cond (inB a1 (nF R) && inB a2 3) (t3 a2 (fx R (cl a1)) (fy R (cl a1)) (cond (fal R (cl a1)) 0 1)) (-2))) := by
  have hbb := h.b
  have h1 := thr_H h
  refine RM_of (by rw [c_M_flue, r_isFlue h1, cI_s, tv_ite, s_in, inB_k a2 2 2 rfl, cI_s, tv_ite, s_laysFlues h1, cV_s, cond_and]) (thr_F σ) (fun hq => ⟨_, ?_, Fr.rf.sI (t := 96) (i := 0) (j := 26) (v := nI (bn (fal R) (nF R))) rfl⟩)
  have h2 : H0 (sI (sI σ 96 0 0 0) 96 0 26 (nI (bn (fal R) (nF R)))) R := h1.s rfl
  rw [Bool.and_eq_true] at hq
  obtain ⟨k1, g1, rfl⟩ := inB_e (by omega) hq.1
  rw [two_n, cl_n (by omega)]
  rcases three_e hq.2 with rfl | rfl | rfl
  · rw [if_pos (by decide), nI_add, ix_nI (by omega) (by omega)]
    exact congrArg (fun z => some (some (vI z), sI (sI σ 96 0 0 0) 96 0 26 (nI (bn (fal R) (nF R))))) (h2.fx g1)
  · rw [if_pos (by decide), nI_add, ix_nI (by omega) (by omega)]
    exact congrArg (fun z => some (some (vI z), sI (sI σ 96 0 0 0) 96 0 26 (nI (bn (fal R) (nF R))))) (h2.fy g1)
  · rw [if_neg (by decide), gI_sIs, s_isBit, cI_s, bit_in (by omega) g1, tv_ite]
    cases fal R k1 <;> rfl
/-- a way between -/
def wayB (R : RF) (a b : Nat) : Bool := ex (fun k => (decide (wa R k = a) && decide (wb R k = b)) || (decide (wa R k = b) && decide (wb R k = a))) (nW R)
theorem s_isWay {σ : St} {R : RF} (h : H0 σ R) {a b : Nat} (ha : a < 2 ^ 31) (hb : b < 2 ^ 31) : Cc 282 0 [vR 96 0, vI (nI a), vI (nI b)] σ = some (some (vI (tv (wayB R a b))), σ) := by
  have hbb := h.b
  rw [c_M_isWay]
  refine lpZ (V := fun j => Vv 282 0 2 [some (vR 96 0), some (vI (nI a)), some (vI (nI b)), some (vI (nI j))] [] σ) (nW R) (fun j hj => ?_) ?_
  · show Vv _ _ _ _ _ _ = _
    have hw := h.1.2.2.2.2.2.1 j hj
    rw [v_M_isWay_2, ixh6, h.W, if_pos (nI_lt hj (by omega))]
    simp (disch := omega) only [two_n, nI_1, ix_nI, h.wa hj, h.wb hj, nI_eq, retZ_1, ite_n]
    cases decide (wa R j = a) <;> cases decide (wb R j = b) <;> cases decide (wa R j = b) <;> cases decide (wb R j = a) <;> rfl
  · show Vv _ _ _ _ _ _ = _
    rw [v_M_isWay_2, ixh6, h.W, if_neg (nI_nlt (Nat.le_refl _) (by omega)), retZ_0]
theorem m_ways {σ : St} {R : RF} (h : H0 σ R) (a1 : Int32) : RM 283 [vI a1] σ (vI (cond (inB a1 (nP R)) (nI (bn (wayB R (cl a1)) (nP R))) (-2))) := by
  have hbb := h.b
  have h1 := thr_H h
  refine RM_of (by rw [c_M_ways, r_isPlace h1, cI_s, tv_ite]) (thr_F σ) (fun hq => ⟨_, ?_, Fr.rf⟩)
  obtain ⟨k1, g1, rfl⟩ := inB_e (by omega) hq
  rw [cl_n (by omega)]
  refine (lpB (V := fun x j => Vv 283 0 21 [some (vR 96 0), some (vI (nI k1)), some (vI x), some (vI (nI j))] [] (sI σ 96 0 0 0)) (P := wayB R k1) (n := nP R) (by omega) (fun j x hj => ?_)).trans ?_
  · show Vv _ _ _ _ _ _ = cond _ (Vv _ _ _ _ _ _) (Vv _ _ _ _ _ _)
    rw [v_M_ways_21, cI_P h1, if_pos (nI_lt hj (by omega)), s_isWay h1 (by omega) (by omega), cI_s, tv_ite, or0, nI_1]
  · show Vv _ _ _ _ _ _ = _
    rw [v_M_ways_21, cI_P h1, if_neg (nI_nlt (Nat.le_refl _) (by omega))]
theorem m_sees {σ : St} {R : RF} (h : H0 σ R) (a1 : Int32) : RM 284 [vI a1] σ (vI (cond (inB a1 (nP R)) (nI (bn (see R (fal R) (cl a1)) (nM R))) (-2))) := by
  have hbb := h.b
  have h1 := thr_H h
  obtain ⟨σ3, c3, f3, h3, -, -, -, -, s3⟩ := s_lays h1
  refine RM_of (by rw [c_M_sees, r_isPlace h1, cI_s, tv_ite, c3, cV_s]) (thr_F σ) (fun hq => ⟨σ3, ?_, f3⟩)
  obtain ⟨k1, g1, rfl⟩ := inB_e (by omega) hq
  rw [cl_n (by omega), ix_nI (by omega) (by omega), s3 k1 g1]
theorem s_fromOf {σ : St} {R : RF} (h : H0 σ R) {fl : Nat → Bool} (hs : SE σ R fl) {m : Nat} (hm : m < nM R) : Cc 285 0 [vR 96 0, vI (nI m)] σ = some (some (vI (nI (bn (fun p => see R fl p m) (nP R)))), σ) := by
  have hbb := h.b
  rw [c_M_fromOf]
  refine (lpB (V := fun x j => Vv 285 0 4 [some (vR 96 0), some (vI (nI m)), some (vI x), some (vI (nI j))] [] σ) (P := fun p => see R fl p m) (n := nP R) (by omega) (fun j x hj => ?_)).trans ?_
  · show Vv _ _ _ _ _ _ = cond _ (Vv _ _ _ _ _ _) (Vv _ _ _ _ _ _)
    rw [v_M_fromOf_4, cI_P h, if_pos (nI_lt hj (by omega)), ix_nI (by omega) (by omega), hs j hj, s_isBit, cI_s, bit_in (by omega) hm, tv_ite, or0, nI_1]
  · show Vv _ _ _ _ _ _ = _
    rw [v_M_fromOf_4, cI_P h, if_neg (nI_nlt (Nat.le_refl _) (by omega))]
theorem m_from {σ : St} {R : RF} (h : H0 σ R) (a1 : Int32) : RM 286 [vI a1] σ (vI (cond (inB a1 (nM R)) (nI (bn (fun p => see R (fal R) p (cl a1)) (nP R))) (-2))) := by
  have hbb := h.b
  have h1 := thr_H h
  obtain ⟨σ3, c3, f3, h3, -, -, -, -, s3⟩ := s_lays h1
  refine RM_of (by rw [c_M_from, r_isMark h1, cI_s, tv_ite, c3, cV_s]) (thr_F σ) (fun hq => ⟨σ3, ?_, f3⟩)
  obtain ⟨k1, g1, rfl⟩ := inB_e (by omega) hq
  rw [cl_n (by omega), s_fromOf h3 s3 g1, cI_s]
theorem m_hides {σ : St} {R : RF} (h : H0 σ R) (a1 a2 : Int32) : RM 287 [vI a1, vI a2] σ (vI (cond (inB a1 (nP R) && inB a2 (nM R)) (fI (hb R (fal R) (cl a1) (cl a2)) (nF R)) (-2))) := by
  have hbb := h.b
  have h1 := thr_H h
  refine RM_of (by rw [c_M_hides, r_isPlace h1, cI_s, tv_ite, r_isMark h1, cI_s, tv_ite, s_laysFlues h1, cV_s, cond_and]) (thr_F σ) (fun hq => ⟨_, ?_, Fr.rf.sI (t := 96) (i := 0) (j := 26) (v := nI (bn (fal R) (nF R))) rfl⟩)
  have h2 : H0 (sI (sI σ 96 0 0 0) 96 0 26 (nI (bn (fal R) (nF R)))) R := h1.s rfl
  rw [Bool.and_eq_true] at hq
  obtain ⟨k1, g1, rfl⟩ := inB_e (by omega) hq.1
  obtain ⟨k2, g2, rfl⟩ := inB_e (by omega) hq.2
  rw [cl_n (by omega), cl_n (by omega), s_hidesOf h2 (gI_sIs _ _ _ _ _) g1 g2, cI_s]
theorem m_worth {σ : St} {R : RF} (h : H0 σ R) (a1 : Int32) : RM 288 [vI a1] σ (vI (cond (inB a1 (nP R)) (nI (wth R (see R (fal R) (cl a1)))) (-2))) := by
  have hbb := h.b
  have h1 := thr_H h
  obtain ⟨σ3, c3, f3, h3, -, -, -, -, s3⟩ := s_lays h1
  refine RM_of (by rw [c_M_worth, r_isPlace h1, cI_s, tv_ite, c3, cV_s]) (thr_F σ) (fun hq => ⟨σ3, ?_, f3⟩)
  obtain ⟨k1, g1, rfl⟩ := inB_e (by omega) hq
  rw [cl_n (by omega), s_placeW h3 s3 g1, cI_s]
theorem m_blind {σ : St} {R : RF} (h : H0 σ R) : RM 289 [] σ (vI (cond (decide (0 < nN R)) (nI (bn (fun p => decide (bn (see R (fal R) p) (nM R) = 0)) (nP R))) (-2))) := by
  have hbb := h.b
  have h1 := thr_H h
  obtain ⟨σ3, c3, f3, h3, -, -, -, -, s3⟩ := s_lays h1
  refine RM_of (by rw [c_M_blind, r_isRoof h1, cI_s, tv_ite, c3, cV_s]) (thr_F σ) (fun hq => ⟨σ3, ?_, f3⟩)
  refine (lpB (V := fun x j => Vv 289 0 23 [some (vR 96 0), some (vI x), some (vI (nI j))] [] σ3) (P := fun p => decide (bn (see R (fal R) p) (nM R) = 0)) (n := nP R) (by omega) (fun j x hj => ?_)).trans ?_
  · show Vv _ _ _ _ _ _ = cond _ (Vv _ _ _ _ _ _) (Vv _ _ _ _ _ _)
    have hlt : bn (see R (fal R) j) (nM R) < 2 ^ 31 := bn_le (by omega)
    rw [v_M_blind_23, cI_P h3, if_pos (nI_lt hj (by omega)), ix_nI (by omega) (by omega), s3 j hj, or0, nI_1, ite_n]
    simp only [nI_e0 hlt]
  · show Vv _ _ _ _ _ _ = _
    rw [v_M_blind_23, cI_P h3, if_neg (nI_nlt (Nat.le_refl _) (by omega))]
theorem m_lost {σ : St} {R : RF} (h : H0 σ R) : RM 290 [] σ (vI (cond (decide (0 < nN R)) (nI (bn (fun m => decide (bn (fun p => see R (fal R) p m) (nP R) = 0)) (nM R))) (-2))) := by
  have hbb := h.b
  have h1 := thr_H h
  obtain ⟨σ3, c3, f3, h3, -, -, -, -, s3⟩ := s_lays h1
  refine RM_of (by rw [c_M_lost, r_isRoof h1, cI_s, tv_ite, c3, cV_s]) (thr_F σ) (fun hq => ⟨σ3, ?_, f3⟩)
  refine (lpB (V := fun x j => Vv 290 0 23 [some (vR 96 0), some (vI x), some (vI (nI j))] [] σ3) (P := fun m => decide (bn (fun p => see R (fal R) p m) (nP R) = 0)) (n := nM R) (by omega) (fun j x hj => ?_)).trans ?_
  · show Vv _ _ _ _ _ _ = cond _ (Vv _ _ _ _ _ _) (Vv _ _ _ _ _ _)
    have hlt : bn (fun p => see R (fal R) p j) (nP R) < 2 ^ 31 := bn_le (by omega)
    rw [v_M_lost_23, cI_M h3, if_pos (nI_lt hj (by omega)), s_fromOf h3 s3 hj, cI_s, or0, nI_1, ite_n]
    simp only [nI_e0 hlt]
  · show Vv _ _ _ _ _ _ = _
    rw [v_M_lost_23, cI_M h3, if_neg (nI_nlt (Nat.le_refl _) (by omega))]
theorem m_best {σ : St} {R : RF} (h : H0 σ R) : RM 291 [] σ (vI (cond (decide (0 < nN R)) (oI (am (fun _ => true) (fun b p => decide (wth R (see R (fal R) b) < wth R (see R (fal R) p))) (nP R))) (-2))) := by
  have hbb := h.b
  have h1 := thr_H h
  obtain ⟨σ3, c3, f3, h3, -, -, -, -, s3⟩ := s_lays h1
  refine RM_of (by rw [c_M_best, r_isRoof h1, cI_s, tv_ite, c3, cV_s]) (thr_F σ) (fun hq => ⟨σ3, ?_, f3⟩)
  refine (lpA (V := fun x j => Vv 291 0 23 [some (vR 96 0), some (vI x), some (vI (nI j))] [] σ3) (lt := fun b p => decide (wth R (see R (fal R) b) < wth R (see R (fal R) p))) (n := nP R) (fun j hj => ?_) (fun j b hj hb => ?_)).trans ?_
  · show Vv _ _ _ _ _ _ = Vv _ _ _ _ _ _
    rw [v_M_best_23, cI_P h3, if_pos (nI_lt hj (by omega)), if_pos rfl, nI_1]
  · show Vv _ _ _ _ _ _ = _
    have w1 := wth_le h.1 (see R (fal R) j)
    have w2 := wth_le h.1 (see R (fal R) b)
    rw [v_M_best_23, cI_P h3, if_pos (nI_lt hj (by omega)), if_neg (nn1 (by omega)), s_placeW h3 s3 hj, cI_s, s_placeW h3 s3 (show b < nP R by omega), cI_s, nI_1, ite_n]
    simp only [nI_leI (show wth R (see R (fal R) j) < 2 ^ 31 by omega) (show wth R (see R (fal R) b) < 2 ^ 31 by omega)]
    by_cases hz : wth R (see R (fal R) b) < wth R (see R (fal R) j)
    · rw [decide_eq_true hz, decide_eq_false (Nat.not_le.mpr hz)]; rfl
    · rw [decide_eq_false hz, decide_eq_true (Nat.not_lt.mp hz)]; rfl
  · show Vv _ _ _ _ _ _ = _
    rw [v_M_best_23, cI_P h3, if_neg (nI_nlt (Nat.le_refl _) (by omega))]
