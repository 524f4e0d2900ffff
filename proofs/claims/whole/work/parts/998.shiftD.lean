/-! SHIFTS: who is first -/
theorem fr_d (Q : Nat → Bool) (k p : Nat) : decide (fr Q (k + 1) p < p + (k + 1)) = (Q p || decide (fr Q k (p + 1) < p + 1 + k)) := by
  show decide (cond (Q p) p (fr Q k (p + 1)) < p + (k + 1)) = _
  cases Q p
  · show decide (fr Q k (p + 1) < p + (k + 1)) = (false || decide (fr Q k (p + 1) < p + 1 + k))
    rw [Bool.false_or]
    exact decide_eq_decide.mpr (by omega)
  · exact decide_eq_true (by show p < p + (k + 1); omega)
def nxt (R : RF) (v : VS) (m l p : Nat) : Bool := mayB R (tld R) l p && decide (dsn (-1) ((tld R).set l p) v = nI m)
theorem set_row {R : RF} {σ : St} {t : Nat} {l p : Nat} (hl : l < nL R) (ht : ∀ j, j < nL R → j ≠ l → gI σ t 0 j = nI ((tld R).getD j 0)) : ∀ i, i < nL R → gI (sI σ t 0 l (nI p)) t 0 i = nI (((tld R).set l p).getD i 0) := fun i hi => by
  have hlen : (tld R).length = nL R := by
    unfold tld
    rw [List.length_map, List.length_range]
  rw [getD_set (by omega) (by omega)]
  by_cases hil : i = l
  · rw [if_pos hil, hil, gI_sIs]
  · rw [if_neg hil, gI_sIj hil]
    exact ht i hi hil
theorem s_first50 {R : RF} {v : VS} (hv : BV R v 1000) {m l : Nat} (hm : m ≤ 1000) (hl : l < nL R) (l1 l2 : Int32) : ∀ (k p : Nat) (τ : St), p + k = nP R → BM τ R v → ∃ σ', Vv 323 0 50 [some (vR 96 0), some (vI l1), some (vI l2), some (vI (nI (m + 1))), some (vI (nI l)), some (vI (nI p))] [] τ = cond (decide (fr (nxt R v m l) k p < p + k)) (some (some (vI (nI l)), σ')) (Vv 323 0 38 [some (vR 96 0), some (vI l1), some (vI l2), some (vI (nI (m + 1))), some (vI (nI (l + 1))), none] [] σ') ∧ Fr shS τ σ' ∧ BM σ' R v
  | 0, p, τ, hp, hB => by
    have hbb := hB.1.b
    have e1 : decide (fr (nxt R v m l) 0 p < p + 0) = false := decide_eq_false (by show ¬ p < p + 0; omega)
    refine ⟨τ, ?_, Fr.rf, hB⟩
    rw [e1, cond_false, v_M_first_50, cI_P hB.1, if_neg (nI_nlt (by omega) (by omega)), nI_1]
  | k + 1, p, τ, hp, hB => by
    have hbb := hB.1.b
    have htm := tld_mem hB.1.1
    have h6 := rws_6 (i := l) (by omega) htm hl
    obtain ⟨σ1, c1, f1, r1⟩ := s_startCode hB.1
    have B1 := BM_rn hB f1
    have r1 : ∀ i, i < nL R → gI σ1 3529 0 i = nI ((tld R).getD i 0) := fun i hi => by rw [r1 i hi, tld_get hi]
    have em : mayB R (tld R) l p = (wayB R ((tld R).getD l 0) p && !Nat.testBit (nmt (fun i => (tld R).getD i 0) (nL R)) p) := rfl
    rw [fr_d, v_M_first_50, cI_P hB.1, if_pos (nI_lt (by omega) (by omega)), c1, cI_s, ix_nI (by omega) (by omega), r1 l hl, s_isWay B1.1 (by omega) (by omega), cI_s, tv_ite, s_isEmpty B1.1 r1 (fun j hj => rws_6 (by omega) htm hj) (show p < 6 by omega), cI_s, tv_ite, nI_1, cond_and, ← em]
    have en : nxt R v m l p = (mayB R (tld R) l p && decide (dsn (-1) ((tld R).set l p) v = nI m)) := rfl
    cases hb : mayB R (tld R) l p
    · rw [en, hb, Bool.false_and, Bool.false_or, cond_false]
      obtain ⟨σ2, c2, f2, B2⟩ := s_first50 hv hm hl l1 l2 k (p + 1) σ1 (by omega) B1
      exact ⟨σ2, c2, (rn_sh f1).tr f2, B2⟩
    · have hset := rws_set htm (show p < nP R by omega) (may_not (rws_len _ _ _ _ htm) hb) l
      have hF : Fr rnS σ1 (sI σ1 3529 0 l (nI p)) := Fr.rf.sI rfl
      have B2 := BM_rn B1 hF
      have hcode : Cc 314 0 [vR 96 0, vR 3529 0] (sI σ1 3529 0 l (nI p)) = some (some (vI (nI (cdr R ((tld R).set l p)))), sI σ1 3529 0 l (nI p)) := s_codeOf B2.1 (set_row hl (fun j hj _ => r1 j hj))
      have e1 : nI (m + 1) - (1 : Int32) = nI m := nI_m1 m
      rw [en, hb, Bool.true_and, cond_true, ix_nI (by omega) (by omega), hcode, cI_s, ix_nI (cdr_lt (by omega) (by omega) hset) (by omega), B2.2.2.2 _ hset, e1, ite_n (c := dsn 100000 ((tld R).set l p) v = nI m), dsn_cmp hv _ hm]
      cases hd : decide (dsn (-1) ((tld R).set l p) v = nI m)
      · rw [cond_false, Bool.false_or]
        obtain ⟨σ2, c2, f2, B3⟩ := s_first50 hv hm hl l1 l2 k (p + 1) _ (by omega) B2
        exact ⟨σ2, c2, ((rn_sh f1).tr (rn_sh hF)).tr f2, B3⟩
      · rw [cond_true, Bool.true_or]
        exact ⟨_, rfl, (rn_sh f1).tr (rn_sh hF), B2⟩
theorem s_first38 {R : RF} {v : VS} (hv : BV R v 1000) {m : Nat} (hm : m ≤ 1000) (l1 l2 : Int32) : ∀ (k l : Nat) (τ : St), l + k = nL R → BM τ R v → ∃ σ', Vv 323 0 38 [some (vR 96 0), some (vI l1), some (vI l2), some (vI (nI (m + 1))), some (vI (nI l)), none] [] τ = some (some (vI (cond (decide (fr (fun l => ex (nxt R v m l) (nP R)) k l < l + k)) (nI (fr (fun l => ex (nxt R v m l) (nP R)) k l)) (-1))), σ') ∧ Fr shS τ σ'
  | 0, l, τ, hl, hB => by
    have hbb := hB.1.b
    have e1 : decide (fr (fun l => ex (nxt R v m l) (nP R)) 0 l < l + 0) = false := decide_eq_false (by show ¬ l < l + 0; omega)
    refine ⟨τ, ?_, Fr.rf⟩
    rw [e1, cond_false, v_M_first_38, cI_L hB.1, if_neg (nI_nlt (by omega) (by omega))]
  | k + 1, l, τ, hl, hB => by
    have hbb := hB.1.b
    obtain ⟨σ1, c1, f1, B1⟩ := s_first50 hv hm (show l < nL R by omega) l1 l2 (nP R) 0 τ (by omega) hB
    have ex1 : decide (fr (nxt R v m l) (nP R) 0 < 0 + nP R) = ex (nxt R v m l) (nP R) := by
      unfold ex
      exact decide_eq_decide.mpr (by omega)
    rw [ex1] at c1
    have c0 : Vv 323 0 38 [some (vR 96 0), some (vI l1), some (vI l2), some (vI (nI (m + 1))), some (vI (nI l)), none] [] τ = cond (ex (nxt R v m l) (nP R)) (some (some (vI (nI l)), σ1)) (Vv 323 0 38 [some (vR 96 0), some (vI l1), some (vI l2), some (vI (nI (m + 1))), some (vI (nI (l + 1))), none] [] σ1) := by
      rw [v_M_first_38, cI_L hB.1, if_pos (nI_lt (by omega) (by omega))]
      exact c1
    have ef : fr (fun l => ex (nxt R v m l) (nP R)) (k + 1) l = cond (ex (nxt R v m l) (nP R)) l (fr (fun l => ex (nxt R v m l) (nP R)) k (l + 1)) := rfl
    rw [c0, fr_d, ef]
    cases hb : ex (nxt R v m l) (nP R)
    · obtain ⟨σ2, c2, f2⟩ := s_first38 hv hm l1 l2 k (l + 1) σ1 (by omega) B1
      rw [cond_false, Bool.false_or, cond_false]
      exact ⟨σ2, c2, f1.tr f2⟩
    · rw [cond_true, Bool.true_or, cond_true, cond_true]
      exact ⟨σ1, rfl, f1⟩
/-- who is first, m + 1 being the distance -/
def fsV (R : RF) (v : VS) (x : Int32) : Int32 := if x ≤ 0 then -1 else fI (fun l => ex (nxt R v (cl x - 1) l) (nP R)) (nL R)
def fsA (R : RF) (K : KT) (a1 : Int32) : Int32 := cond (decide (wnR R K a1 = 0)) (fsV R (BF R (glr R K (cl a1))) (dsn (-1) (tld R) (BF R (glr R K (cl a1))))) (wnR R K a1)
theorem fI_fr (P : Nat → Bool) (n : Nat) : fI P n = cond (decide (fr P n 0 < 0 + n)) (nI (fr P n 0)) (-1) := by
  unfold fI ex
  rw [Nat.zero_add]
theorem m_first {σ : St} {R : RF} (h : H0 σ R) {K : KT} (hK : SM σ K) (a1 : Int32) : RM 323 [vI a1] σ (vI (fsA R K a1)) := by
  have h1 := thr_H h
  have hbb := h.b
  have hK1 := hK.f (thr_F σ)
  unfold fsA
  refine RM_of (by rw [c_M_first, s_whyNotRow h1 hK1, cI_s, ite_n (c := wnR R K a1 = 0)]) (thr_F σ) (fun hq => ?_)
  obtain ⟨s, hs, rfl, hw, hg⟩ := wn_0 (of_decide_eq_true hq)
  obtain ⟨σ1, c1, f1, B1, V1⟩ := s_laysTo h1 hK1 hs hw hg
  rw [c1, cI_s, cl_n (by omega)]
  unfold fsV
  rcases dsn_or V1 (tld R) with ⟨e1, e2⟩ | ⟨k, hk, e1, e2⟩
  · rw [e1, e2, if_neg (by decide), if_pos (by decide)]
    exact ⟨σ1, rfl, sh_up f1⟩
  · rw [e1, e2, if_pos (show nI k < (100000 : Int32) from nI_lt (b := 100000) (by omega) (by omega))]
    cases k with
    | zero =>
      rw [if_pos q_0, if_pos (by decide)]
      exact ⟨σ1, rfl, sh_up f1⟩
    | succ m =>
      rw [if_neg (nI_ne0 (by omega) (by omega)), if_neg (nI_nle (show 0 < m + 1 by omega) (by omega)), cl_n (by omega), Nat.add_sub_cancel, fI_fr]
      obtain ⟨σ2, c2, f2⟩ := s_first38 V1 (show m ≤ 1000 by omega) (nI s) (wnR R K (nI s)) (nL R) 0 σ1 (by omega) B1
      exact ⟨σ2, c2, (sh_up f1).tr (sh_up f2)⟩
theorem bfs_BV {R : RF} (hP : nP R < 7) (hL : nL R < nP R + 1) : ∀ (k i : Nat) (v : VS), i + k = 721 → BI R i v → i ≤ v.length → BV R (bfs R k i v) 1000
  | 0, i, v, hk, hI, hi => by
    have hm := hmr_le (nP R) hP (nL R) hL
    have hlen := BV_len hP hL hI.1
    exfalso
    omega
  | k + 1, i, v, hk, hI, hi => by
    have hm := hmr_le (nP R) hP (nL R) hL
    have hlen := BV_len hP hL hI.1
    show BV R (if i < v.length then bfs R k (i + 1) (vsL R (v.getD i ([], 0)).1 (v.getD i ([], 0)).2 (nL R) v) else v) 1000
    by_cases hq : i < v.length
    · obtain ⟨h1, hd, hr, hI2, hl2⟩ := BI_next hI hq
      rw [if_pos hq]
      exact bfs_BV hP hL k (i + 1) _ (by omega) hI2 (by omega)
    · rw [if_neg hq]
      exact BV_up hI.1 (by omega)
/-! THE CLASS -/
theorem k_first57 {R : RF} {v : VS} {m l s : Nat} (hl : l < nL R) : ∀ (k p : Nat) (τ : St), p + k = nP R → BC τ R v → (∀ j, j < nL R → j ≠ l → gI τ 3329 0 j = nI ((tld R).getD j 0)) → ∃ σ', Vv 88 0 57 [some (vR 64 0), some (vR 80 s), some (vI (nI (m + 1))), some (vI (nI l)), some (vI (nI ((tld R).getD l 0))), some (vI (nI (bn (mayB R (tld R) l) (nP R)))), some (vI (nI p))] [] τ = cond (decide (fr (nxt R v m l) k p < p + k)) (some (some (vI (nI l)), σ')) (Vv 88 0 14 [some (vR 64 0), some (vR 80 s), some (vI (nI (m + 1))), some (vI (nI (l + 1))), none, none, none] [] σ') ∧ Fr sxS τ σ' ∧ BC σ' R v ∧ (decide (fr (nxt R v m l) k p < p + k) = false → ∀ j, j < nL R → gI σ' 3329 0 j = nI ((tld R).getD j 0))
  | 0, p, τ, hp, hB, hrow => by
    have hbb := hB.1.b
    have e1 : decide (fr (nxt R v m l) 0 p < p + 0) = false := decide_eq_false (by show ¬ p < p + 0; omega)
    have hF : Fr snS τ (sI τ 3329 0 l (nI ((tld R).getD l 0))) := Fr.rf.sI rfl
    refine ⟨sI τ 3329 0 l (nI ((tld R).getD l 0)), ?_, sn_sx hF, BC_sn hB hF, fun _ j hj => ?_⟩
    · rw [e1, cond_false, v_Shifting_firstLooker_57, hB.1.prP.1, if_neg (nI_nlt (by omega) (by omega)), ix_nI (by omega) (by omega), nI_1]
    · by_cases hjl : j = l
      · rw [hjl, gI_sIs]
      · rw [gI_sIj hjl]
        exact hrow j hj hjl
  | k + 1, p, τ, hp, hB, hrow => by
    have hbb := hB.1.b
    have htm := tld_mem hB.1.1
    have hF : Fr snS τ (sI τ 3329 0 l (nI p)) := Fr.rf.sI rfl
    have B1 := BC_sn hB hF
    have hrow1 : ∀ j, j < nL R → j ≠ l → gI (sI τ 3329 0 l (nI p)) 3329 0 j = nI ((tld R).getD j 0) := fun j hj hjl => by
      rw [gI_sIj hjl]
      exact hrow j hj hjl
    have en : nxt R v m l p = (mayB R (tld R) l p && decide (dsn (-1) ((tld R).set l p) v = nI m)) := rfl
    rw [fr_d, v_Shifting_firstLooker_57, hB.1.prP.1, if_pos (nI_lt (by omega) (by omega)), ix_nI (by omega) (by omega), may_bit (by omega) (by omega), nI_1]
    cases hb : mayB R (tld R) l p
    · rw [en, hb, Bool.false_and, Bool.false_or, cond_false]
      obtain ⟨σ2, c2, f2, B2, r2⟩ := k_first57 (s := s) (m := m) hl k (p + 1) _ (by omega) B1 hrow1
      exact ⟨σ2, c2, (sn_sx hF).tr f2, B2, r2⟩
    · have hset := rws_set htm (show p < nP R by omega) (may_not (rws_len _ _ _ _ htm) hb) l
      have e1 : nI (m + 1) - (1 : Int32) = nI m := nI_m1 m
      rw [en, hb, Bool.true_and, cond_true, k_distS B1 hset (set_row hl hrow), cI_s, e1, ite_n (c := dsn (-1) ((tld R).set l p) v = nI m)]
      cases hd : decide (dsn (-1) ((tld R).set l p) v = nI m)
      · rw [cond_false, Bool.false_or]
        obtain ⟨σ2, c2, f2, B2, r2⟩ := k_first57 (s := s) (m := m) hl k (p + 1) _ (by omega) B1 hrow1
        exact ⟨σ2, c2, (sn_sx hF).tr f2, B2, r2⟩
      · rw [cond_true, Bool.true_or]
        exact ⟨_, rfl, sn_sx hF, B1, fun z => by cases z⟩
theorem k_first14 {R : RF} {v : VS} {m s : Nat} : ∀ (k l : Nat) (τ : St), l + k = nL R → BC τ R v → (∀ j, j < nL R → gI τ 3329 0 j = nI ((tld R).getD j 0)) → ∃ σ', Vv 88 0 14 [some (vR 64 0), some (vR 80 s), some (vI (nI (m + 1))), some (vI (nI l)), none, none, none] [] τ = some (some (vI (cond (decide (fr (fun l => ex (nxt R v m l) (nP R)) k l < l + k)) (nI (fr (fun l => ex (nxt R v m l) (nP R)) k l)) (-1))), σ') ∧ Fr sxS τ σ'
  | 0, l, τ, hl, hB, hrow => by
    have hbb := hB.1.b
    have e1 : decide (fr (fun l => ex (nxt R v m l) (nP R)) 0 l < l + 0) = false := decide_eq_false (by show ¬ l < l + 0; omega)
    refine ⟨τ, ?_, Fr.rf⟩
    rw [e1, cond_false, v_Shifting_firstLooker_14, hB.1.prL.1, if_neg (nI_nlt (by omega) (by omega))]
  | k + 1, l, τ, hl, hB, hrow => by
    have hbb := hB.1.b
    have htm := tld_mem hB.1.1
    have h6 := rws_6 (i := l) (by omega) htm (by omega)
    obtain ⟨σ1, c1, f1, B1, r1⟩ := k_first57 (v := v) (m := m) (s := s) (show l < nL R by omega) (nP R) 0 τ (by omega) hB (fun j hj _ => hrow j hj)
    have ex1 : decide (fr (nxt R v m l) (nP R) 0 < 0 + nP R) = ex (nxt R v m l) (nP R) := by
      unfold ex
      exact decide_eq_decide.mpr (by omega)
    rw [ex1] at c1 r1
    have c0 : Vv 88 0 14 [some (vR 64 0), some (vR 80 s), some (vI (nI (m + 1))), some (vI (nI l)), none, none, none] [] τ = cond (ex (nxt R v m l) (nP R)) (some (some (vI (nI l)), σ1)) (Vv 88 0 14 [some (vR 64 0), some (vR 80 s), some (vI (nI (m + 1))), some (vI (nI (l + 1))), none, none, none] [] σ1) := by
      rw [v_Shifting_firstLooker_14, hB.1.prL.1, if_pos (nI_lt (by omega) (by omega)), ix_nI (by omega) (by omega), hrow l (by omega), k_neighbours hB.1 (by omega), cI_s, k_takenS hB.1 hrow (fun j hj => rws_6 (by omega) htm hj), cI_s, may_bits (by omega) htm l]
      exact c1
    have ef : fr (fun l => ex (nxt R v m l) (nP R)) (k + 1) l = cond (ex (nxt R v m l) (nP R)) l (fr (fun l => ex (nxt R v m l) (nP R)) k (l + 1)) := rfl
    rw [c0, fr_d, ef]
    cases hb : ex (nxt R v m l) (nP R)
    · obtain ⟨σ2, c2, f2⟩ := k_first14 (s := s) (m := m) k (l + 1) σ1 (by omega) B1 (r1 hb)
      rw [cond_false, Bool.false_or, cond_false]
      exact ⟨σ2, c2, f1.tr f2⟩
    · rw [cond_true, Bool.true_or, cond_true, cond_true]
      exact ⟨σ1, rfl, f1⟩
theorem t_first {σ : St} {R : RF} (h : HV σ R) {K : KT} (hK : SK σ K) (a1 : Int32) : RC 150 [vI a1] σ (vI (fsA R K a1)) := by
  have hbb := h.1.b
  unfold fsA
  refine RC_of (by rw [c_H_first, h_refuseGoal h.1 hK, cI_s, ite_n (c := wnR R K a1 = 0)]) (fun hq => ?_)
  obtain ⟨s, hs, rfl, hw, hg⟩ := wn_0 (of_decide_eq_true hq)
  obtain ⟨σ1, c1, f1, B1, r1⟩ := k_fewest h.1 hK hs hw hg
  have hLP := vp_le (vp_told h.1.1)
  have V1 : BV R (BF R (glr R K s)) 1000 := bfs_BV (by omega) (by omega) 721 0 _ (by omega) (BI_0 (glr_mem (by omega) hg)) (Nat.zero_le _)
  rw [ix_nI hs (by omega), c_Shifting_firstLooker, c1, cI_s, cl_n (by omega)]
  unfold fsV
  rcases dsn_or V1 (tld R) with ⟨e1, e2⟩ | ⟨k, hk, e1, e2⟩
  · rw [e2, if_pos (by decide), if_pos (by decide)]
    exact ⟨σ1, rfl, sx_up f1⟩
  · rw [e2]
    cases k with
    | zero =>
      rw [if_pos (by decide), if_pos (by decide)]
      exact ⟨σ1, rfl, sx_up f1⟩
    | succ m =>
      have hn : ¬ nI (m + 1) ≤ (0 : Int32) := nI_nle (show 0 < m + 1 by omega) (by omega)
      rw [if_neg hn, if_neg hn, cl_n (by omega), Nat.add_sub_cancel, fI_fr]
      obtain ⟨σ2, c2, f2⟩ := k_first14 (v := BF R (glr R K s)) (m := m) (s := s) (nL R) 0 σ1 (by omega) B1 r1
      have c2 : Vv 88 0 14 [some (vR 64 0), some (vR 80 s), some (vI (nI (m + 1))), some (vI 0), none, none, none] [] σ1 = some (some (vI (cond (decide (fr (fun l => ex (nxt R (BF R (glr R K s)) m l) (nP R)) (nL R) 0 < 0 + nL R)) (nI (fr (fun l => ex (nxt R (BF R (glr R K s)) m l) (nP R)) (nL R) 0)) (-1))), σ2) := c2
      exact ⟨σ2, by rw [c2, cI_s], (sx_up f1).tr (sx_up f2)⟩
