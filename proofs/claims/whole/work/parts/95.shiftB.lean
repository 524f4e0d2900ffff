/-! SHIFTS: who is where, the row to begin with -/
theorem nmt_tb (f : Nat → Nat) (p : Nat) : ∀ n, Nat.testBit (nmt f n) p = ex (fun i => decide (f i = p)) n
  | 0 => by
    show Nat.testBit 0 p = false
    exact Nat.zero_testBit p
  | n + 1 => by
    show Nat.testBit (nmt f n ||| 2 ^ f n) p = _
    rw [ex_succ, Nat.testBit_or, nmt_tb f p n, Nat.testBit_two_pow]
theorem s_isEmpty {σ : St} {R : RF} (h : H0 σ R) {f : Nat → Nat} (hr : ∀ i, i < nL R → gI σ 3529 0 i = nI (f i)) (hf : ∀ i, i < nL R → f i < 6) {p : Nat} (hp : p < 6) : Cc 316 0 [vR 96 0, vI (nI p)] σ = some (some (vI (tv (!Nat.testBit (nmt f (nL R)) p))), σ) := by
  have hbb := h.b
  rw [c_M_isEmpty, nmt_tb]
  refine lpZn (V := fun j => Vv 316 0 2 [some (vR 96 0), some (vI (nI p)), some (vI (nI j))] [] σ) (nL R) (fun j hj => ?_) ?_
  · show Vv _ _ _ _ _ _ = _
    have hfj := hf j hj
    rw [v_M_isEmpty_2, cI_L h, if_pos (nI_lt hj (by omega)), ix_nI (by omega) (by omega), hr j hj, retZ_0, nI_1]
    by_cases hq : f j = p
    · rw [if_pos (by rw [hq]), decide_eq_true hq]
      rfl
    · rw [if_neg (fun z => hq ((nI_eq (by omega) (by omega)).mp z)), decide_eq_false hq]
      rfl
  · show Vv _ _ _ _ _ _ = _
    rw [v_M_isEmpty_2, cI_L h, if_neg (nI_nlt (Nat.le_refl _) (by omega)), retZ_1]
theorem s_start2 {R : RF} : ∀ (k j : Nat) (σ : St), j + k = nL R → H0 σ R → (∀ i, i < j → gI σ 3529 0 i = nI (lp R i)) → ∃ σ', Vv 320 0 2 [some (vR 96 0), some (vI (nI j))] [] σ = some (some (vI (nI (cde (lp R) (nL R)))), σ') ∧ Fr rnS σ σ' ∧ ∀ i, i < nL R → gI σ' 3529 0 i = nI (lp R i)
  | 0, j, σ, hj, h, ha => by
    have hbb := h.b
    have ha' : ∀ i, i < nL R → gI σ 3529 0 i = nI (lp R i) := fun i hi => ha i (by omega)
    exact ⟨σ, by rw [v_M_startCode_2, cI_L h, if_neg (nI_nlt (by omega) (by omega)), s_codeOf h ha', cI_s], Fr.rf, ha'⟩
  | k + 1, j, σ, hj, h, ha => by
    have hbb := h.b
    have hF : Fr rnS σ (sI σ 3529 0 j (nI (lp R j))) := Fr.rf.sI rfl
    obtain ⟨σ', c1, f1, a1⟩ := s_start2 k (j + 1) (sI σ 3529 0 j (nI (lp R j))) (by omega) (h.f (rn_sc hF)) (fun i hi => by
      by_cases hij : i = j
      · rw [hij, gI_sIs]
      · rw [gI_sIj hij]
        exact ha i (by omega))
    refine ⟨σ', ?_, hF.tr f1, a1⟩
    rw [v_M_startCode_2, cI_L h, if_pos (nI_lt (by omega) (by omega)), show (2 : Int32) * nI j = nI (2 * j) from pk_mul 2 _, ix_nI (by omega) (by omega), ix_nI (by omega) (by omega), h.lp (by omega), nI_1]
    exact c1
theorem s_startCode {σ : St} {R : RF} (h : H0 σ R) : ∃ σ', Cc 320 0 [vR 96 0] σ = some (some (vI (nI (cde (lp R) (nL R)))), σ') ∧ Fr rnS σ σ' ∧ ∀ i, i < nL R → gI σ' 3529 0 i = nI (lp R i) := by
  rw [c_M_startCode]
  exact s_start2 (nL R) 0 σ (by omega) h (fun i hi => by omega)
/-- the row that a slot has -/
def gof (K : KT) (s i : Nat) : Nat := (kc K s i).toInt.toNat
theorem goL_e {R : RF} {K : KT} {s : Nat} : ∀ {k j u : Nat}, goL R K s k j u = true → ∀ i, j ≤ i → i < j + k → inL (kc K s i) (nP R) = true
  | 0, j, u, _, i, h1, h2 => by omega
  | k + 1, j, u, h, i, h1, h2 => by
    have h : (inL (kc K s j) (nP R) && (!Nat.testBit u (kc K s j).toInt.toNat && goL R K s k (j + 1) (u ||| 2 ^ (kc K s j).toInt.toNat))) = true := h
    rw [Bool.and_eq_true, Bool.and_eq_true] at h
    by_cases hij : i = j
    · rw [hij]; exact h.1
    · exact goL_e h.2.2 i (by omega) (by omega)
theorem gof_e {R : RF} (hP : nP R ≤ 6) {K : KT} {s : Nat} (h : goB R K s = true) {i : Nat} (hi : i < nL R) : gof K s i < nP R ∧ kc K s i = lN (gof K s i) := by
  unfold goB at h
  rw [Bool.and_eq_true] at h
  obtain ⟨y, hy, ey⟩ := inL_e (by omega) (goL_e h.2 i (by omega) (by omega))
  have c1 : (lN y).toInt.toNat = y := by rw [lN_i63 (by omega)]; omega
  unfold gof
  rw [ey, c1]
  exact ⟨hy, rfl⟩
