/-! SHIFTS: is it a row at all -/
def goL (R : RF) (K : KT) (s : Nat) : Nat → Nat → Nat → Bool
  | 0, _, _ => true
  | k + 1, j, u => inL (kc K s j) (nP R) && (!Nat.testBit u (kc K s j).toInt.toNat && goL R K s k (j + 1) (u ||| 2 ^ (kc K s j).toInt.toNat))
def goB (R : RF) (K : KT) (s : Nat) : Bool := decide (kn K s = nL R) && goL R K s (nL R) 0 0
def wnR (R : RF) (K : KT) (a1 : Int32) : Int32 := cond (inB a1 4 && decide (0 < nN R)) (cond (decide (kw K (cl a1) = 4)) (-6) (cond (goB R K (cl a1)) 0 (-2))) (-2)
theorem s_row50 {σ : St} {R : RF} (h : H0 σ R) {K : KT} (hK : SM σ K) {s : Nat} (hs : s < 4) (hw : kw K s ≠ 4) (hn : kn K s = nL R) : ∀ (k j u : Nat), j + k = nL R → u < 2 ^ 6 → Vv 319 0 50 [some (vR 96 0), some (vI (nI s)), some (vI (nI u)), some (vI (nI j)), none, none] [] σ = some (some (vI (cond (goL R K s k j u) 0 (-2))), σ)
  | 0, j, u, hj, hu => by
    have hbb := h.b
    rw [v_M_whyNotRow_50, cI_L h, if_neg (nI_nlt (by omega) (by omega))]
    rfl
  | k + 1, j, u, hj, hu => by
    have hbb := h.b
    obtain ⟨k1, k2, k3, k4⟩ := hK s hs
    obtain ⟨g1, g2, g3⟩ := k4 hw
    have eg : goL R K s (k + 1) j u = (inL (kc K s j) (nP R) && (!Nat.testBit u (kc K s j).toInt.toNat && goL R K s k (j + 1) (u ||| 2 ^ (kc K s j).toInt.toNat))) := rfl
    rw [v_M_whyNotRow_50, cI_L h, if_pos (nI_lt (by omega) (by omega)), sixty, nI_add, ix_nI (by omega) (by omega), g3 j (by omega), r_isPlaceL h, cI_s, tv_ite, eg]
    cases hi : inL (kc K s j) (nP R)
    · rfl
    · obtain ⟨y, hy, ey⟩ := inL_e (by omega) hi
      have c1 : (lN y).toInt.toNat = y := by rw [lN_i63 (by omega)]; omega
      rw [cond_true, ey, lN_i, c1, s_isBit, bit_n (by omega) (by omega), cI_s, tv_ite, Bool.true_and]
      cases hb : Nat.testBit u y
      · rw [cond_false, shl_1 _ (by omega), nI_or, nI_1, s_row50 h hK hs hw hn k (j + 1) (u ||| 2 ^ y) (by omega) (Nat.or_lt_two_pow hu (Nat.pow_lt_pow_right (by omega) (by omega)))]
        rfl
      · rfl
theorem s_whyNotRow {σ : St} {R : RF} (h : H0 σ R) {K : KT} (hK : SM σ K) (a1 : Int32) : Cc 319 0 [vR 96 0, vI a1] σ = some (some (vI (wnR R K a1)), σ) := by
  have hbb := h.b
  rw [c_M_whyNotRow, r_isSlot, cI_s, tv_ite, r_isRoof h, cI_s, tv_ite, cond_and]
  unfold wnR
  cases hq : inB a1 4 && decide (0 < nN R)
  · rfl
  · rw [cond_true, cond_true]
    rw [Bool.and_eq_true] at hq
    obtain ⟨s, hs, rfl⟩ := inB_e (by omega) hq.1
    obtain ⟨k1, k2, k3, k4⟩ := hK s hs
    rw [cl_n (by omega), ix_nI (by omega) (by omega)]
    by_cases hw : kw K s = 4
    · rw [k3 hw, if_pos rfl, decide_eq_true hw]
      rfl
    · obtain ⟨g1, g2, g3⟩ := k4 hw
      rw [g1, if_neg (nn1 (by omega)), ix_nI (by omega) (by omega), cI_L h, g2, decide_eq_false hw, cond_false]
      unfold goB
      by_cases hn : kn K s = nL R
      · rw [if_pos (by rw [hn]), decide_eq_true hn, Bool.true_and]
        exact s_row50 h hK hs hw hn (nL R) 0 0 (by omega) (by decide)
      · rw [if_neg (fun z => hn ((nI_eq (by omega) (by omega)).mp z)), decide_eq_false hn]
        rfl
theorem k_goal23 {σ : St} {R : RF} (h : K0 σ R) {K : KT} (hK : SK σ K) {s : Nat} (hs : s < 4) (hw : kw K s ≠ 4) (hn : kn K s = nL R) : ∀ (k j u : Nat), j + k = nL R → u < 2 ^ 6 → Vv 86 0 23 [some (vR 64 0), some (vR 80 s), some (vI (nI u)), some (vI (nI j)), none, none] [] σ = some (some (vI (tv (goL R K s k j u))), σ)
  | 0, j, u, hj, hu => by
    have hbb := h.b
    obtain ⟨k1, k2, k3, k4⟩ := hK s hs
    obtain ⟨g0, g1, g2, g3⟩ := k4 hw
    rw [v_Shifting_isGoal_23, g2, hn, if_neg (nI_nlt (by omega) (by omega)), retZ_1]
    rfl
  | k + 1, j, u, hj, hu => by
    have hbb := h.b
    obtain ⟨k1, k2, k3, k4⟩ := hK s hs
    obtain ⟨g0, g1, g2, g3⟩ := k4 hw
    have eg : goL R K s (k + 1) j u = (inL (kc K s j) (nP R) && (!Nat.testBit u (kc K s j).toInt.toNat && goL R K s k (j + 1) (u ||| 2 ^ (kc K s j).toInt.toNat))) := rfl
    rw [v_Shifting_isGoal_23, g2, hn, if_pos (nI_lt (by omega) (by omega)), k_number hK hs hw (by omega), cL_s, h.prP.1, ifL_lt _ (by omega), retZ_0, eg]
    cases hi : inL (kc K s j) (nP R)
    · rfl
    · obtain ⟨y, hy, ey⟩ := inL_e (by omega) hi
      have c1 : (lN y).toInt.toNat = y := by rw [lN_i63 (by omega)]; omega
      rw [cond_true, ey, lN_i, c1, bit_ne, bit_n (by omega) (by omega), Bool.true_and]
      cases hb : Nat.testBit u y
      · rw [cond_false, shl_1 _ (by omega), nI_or, nI_1, k_goal23 h hK hs hw hn k (j + 1) (u ||| 2 ^ y) (by omega) (Nat.or_lt_two_pow hu (Nat.pow_lt_pow_right (by omega) (by omega)))]
        rfl
      · rfl
theorem h_refuseGoal {σ : St} {R : RF} (h : K0 σ R) {K : KT} (hK : SK σ K) (a1 : Int32) : Cc 192 0 [vR 88 0, vI a1] σ = some (some (vI (wnR R K a1)), σ) := by
  have hbb := h.b
  rw [c_H_refuseGoal, h_isSlot, cI_s, tv_ite, h_isTold h, cI_s, tv_ite, cond_and]
  unfold wnR
  cases hq : inB a1 4 && decide (0 < nN R)
  · rfl
  · rw [cond_true, cond_true]
    rw [Bool.and_eq_true] at hq
    obtain ⟨s, hs, rfl⟩ := inB_e (by omega) hq.1
    obtain ⟨k1, k2, k3, k4⟩ := hK s hs
    rw [cl_n (by omega), ix_nI (by omega) (by omega)]
    by_cases hw : kw K s = 4
    · rw [k3 hw, if_pos rfl, decide_eq_true hw]
      rfl
    · obtain ⟨g0, g1, g2, g3⟩ := k4 hw
      have hg : Cc 86 0 [vR 64 0, vR 80 s] σ = some (some (vI (tv (goB R K s))), σ) := by
        rw [c_Shifting_isGoal, g2, h.prL.1]
        unfold goB
        by_cases hn : kn K s = nL R
        · rw [if_pos (by rw [hn]), decide_eq_true hn, Bool.true_and]
          exact k_goal23 h hK hs hw hn (nL R) 0 0 (by omega) (by decide)
        · rw [if_neg (fun z => hn ((nI_eq (by omega) (by omega)).mp z)), decide_eq_false hn, retZ_0]
          rfl
      rw [g0, if_neg (by decide), ix_nI (by omega) (by omega), hg, cI_s, tv_ite, decide_eq_false hw, cond_false]
      cases goB R K s <;> rfl
