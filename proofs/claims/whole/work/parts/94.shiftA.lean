/-! SHIFTS: rows are read and written -/
def rnS (t _i _j : Nat) : Bool := Nat.beq t 3529
theorem rn_sc {σ σ' : St} (h : Fr rnS σ σ') : Fr scM σ σ' := h.up (fun t i j hq => by
  cases hz : rnS t i j
  · rfl
  · rw [Nat.eq_of_beq_eq_true hz] at hq
    cases hq)
theorem s_dec9 {L : Nat} (hL : L ≤ 6) {f : Nat → Nat} (hf : ∀ i, i < L → f i < 6) (l1 : Int32) : ∀ (k : Nat) (σ : St), k ≤ L → ∃ σ', Vv 315 0 9 [some (vR 96 0), some (vI l1), some (vI (nI (cde f k))), some (vI (nI k - 1))] [] σ = some (none, σ') ∧ Fr rnS σ σ' ∧ (∀ i, i < k → gI σ' 3529 0 i = nI (f i)) ∧ ∀ i, k ≤ i → gI σ' 3529 0 i = gI σ 3529 0 i
  | 0, σ, hk => by
    refine ⟨σ, ?_, Fr.rf, fun i hi => by omega, fun i _ => rfl⟩
    rw [v_M_decodes_9, if_pos (by decide)]
  | k + 1, σ, hk => by
    have hfk := hf k (by omega)
    have hc := cde_lt (f := f) (n := k + 1) (fun i hi => hf i (by omega))
    have h6 : 6 ^ (k + 1) ≤ 6 ^ 6 := Nat.pow_le_pow_right (by omega) (by omega)
    have ec : cde f (k + 1) = 6 * cde f k + f k := rfl
    have e1 : nI (cde f (k + 1)) / (6 : Int32) = nI (cde f k) := by
      have := pk_div (a := cde f (k + 1)) (d := 6) (by omega) (by omega) (by omega)
      rw [show cde f (k + 1) / 6 = cde f k by omega] at this
      exact this
    have e2 : nI (cde f (k + 1)) - nI (cde f (k + 1)) / (6 : Int32) * (6 : Int32) = nI (f k) := by
      have := pk_rem (a := cde f (k + 1)) (d := 6) (by omega) (by omega) (by omega)
      rw [show cde f (k + 1) % 6 = f k by omega] at this
      exact this
    obtain ⟨σ', c1, f1, a1, b1⟩ := s_dec9 hL hf l1 k (sI σ 3529 0 k (nI (f k))) (by omega)
    have hF : Fr rnS σ (sI σ 3529 0 k (nI (f k))) := Fr.rf.sI rfl
    have ek : nI k + (-1) = nI k - 1 := (Int32.sub_eq_add_neg _ _).symm
    refine ⟨σ', ?_, hF.tr f1, fun i hi => ?_, fun i hi => ?_⟩
    · rw [nI_m1, v_M_decodes_9, if_neg (nI_pos (by omega)), if_neg (by decide), ix_nI (by omega) (by omega), if_neg (by decide), e2, e1, ek]
      exact c1
    · by_cases hik : i = k
      · subst hik
        rw [b1 i (Nat.le_refl _), gI_sIs]
      · exact a1 i (by omega)
    · rw [b1 i (by omega), gI_sIj (by omega)]
theorem s_decodes {σ : St} {R : RF} (h : H0 σ R) {f : Nat → Nat} (hf : ∀ i, i < nL R → f i < 6) : ∃ σ', Cc 315 0 [vR 96 0, vI (nI (cde f (nL R)))] σ = some (none, σ') ∧ Fr rnS σ σ' ∧ ∀ i, i < nL R → gI σ' 3529 0 i = nI (f i) := by
  have hbb := h.b
  obtain ⟨σ', c1, f1, a1, _⟩ := s_dec9 (L := nL R) (by omega) hf (nI (cde f (nL R))) (nL R) σ (Nat.le_refl _)
  exact ⟨σ', by rw [c_M_decodes, cI_L h]; exact c1, f1, a1⟩
/-! THE CLASS -/
def snS (t _i _j : Nat) : Bool := Nat.beq t 3329
theorem sn_sc {σ σ' : St} (h : Fr snS σ σ') : Fr scC σ σ' := h.up (fun t i j hq => by
  cases hz : snS t i j
  · rfl
  · rw [Nat.eq_of_beq_eq_true hz] at hq
    cases hq)
theorem k_takenS {σ : St} {R : RF} (h : K0 σ R) {f : Nat → Nat} (hr : ∀ i, i < nL R → gI σ 3329 0 i = nI (f i)) (hf : ∀ i, i < nL R → f i < 6) : Cc 95 0 [vR 64 0] σ = some (some (vI (nI (nmt f (nL R)))), σ) := by
  have hbb := h.b
  rw [c_Shifting_taken]
  refine (lpU (V := fun j => Vv 95 0 4 [some (vR 64 0), some (vI (nI (nmt f j))), some (vI (nI j))] [] σ) (n := nL R) (fun j hj => ?_)).trans ?_
  · show Vv _ _ _ _ _ _ = Vv _ _ _ _ _ _
    have hfj := hf j hj
    rw [v_Shifting_taken_4, h.prL.1, if_pos (nI_lt hj (by omega)), ix_nI (by omega) (by omega), hr j hj, shl_1 _ (by omega), nI_or, nI_1]
    rfl
  · show Vv _ _ _ _ _ _ = _
    rw [v_Shifting_taken_4, h.prL.1, if_neg (nI_nlt (Nat.le_refl _) (by omega))]
theorem k_told2 {R : RF} : ∀ (k j : Nat) (σ : St), j + k = nL R → K0 σ R → (∀ i, i < j → gI σ 3329 0 i = nI (lp R i)) → ∃ σ', Vv 90 0 2 [some (vR 64 0), some (vI (nI j))] [] σ = some (none, σ') ∧ Fr snS σ σ' ∧ ∀ i, i < nL R → gI σ' 3329 0 i = nI (lp R i)
  | 0, j, σ, hj, h, ha => by
    have hbb := h.b
    exact ⟨σ, by rw [v_Shifting_fillAsTold_2, h.prL.1, if_neg (nI_nlt (by omega) (by omega))], Fr.rf, fun i hi => ha i (by omega)⟩
  | k + 1, j, σ, hj, h, ha => by
    have hbb := h.b
    have hF : Fr snS σ (sI σ 3329 0 j (nI (lp R j))) := Fr.rf.sI rfl
    obtain ⟨σ', c1, f1, a1⟩ := k_told2 k (j + 1) (sI σ 3329 0 j (nI (lp R j))) (by omega) ⟨h.1, h.2.fr hF (fun _ => ⟨rfl, fun _ _ => ⟨rfl, rfl, rfl⟩, rfl, rfl, rfl, rfl, rfl⟩)⟩ (fun i hi => by
      by_cases hij : i = j
      · rw [hij, gI_sIs]
      · rw [gI_sIj hij]
        exact ha i (by omega))
    refine ⟨σ', ?_, hF.tr f1, a1⟩
    rw [v_Shifting_fillAsTold_2, h.prL.1, if_pos (nI_lt (by omega) (by omega)), k_lp h (by omega), cI_s, ix_nI (by omega) (by omega), nI_1]
    exact c1
theorem k_fillAsTold {σ : St} {R : RF} (h : K0 σ R) : ∃ σ', Cc 90 0 [vR 64 0] σ = some (none, σ') ∧ Fr snS σ σ' ∧ ∀ i, i < nL R → gI σ' 3329 0 i = nI (lp R i) := by
  rw [c_Shifting_fillAsTold]
  exact k_told2 (nL R) 0 σ (by omega) h (fun i hi => by omega)
