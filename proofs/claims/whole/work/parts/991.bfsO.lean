/-! SHIFTS: THE REFERENCE, one turn -/
theorem s_next63 {R : RF} {i : Nat} {r : List Nat} {d : Nat} (hd : d + 1 < 100000) (l1 : Int32) {v : VS} : ∀ (k l : Nat) (τ : St), l + k = nL R → SMI τ R (vsL R r d l v) i r d → ∃ σ', Vv 317 0 63 [some (vR 96 0), some (vI l1), some (vI (nI i)), some (vI (nI l)), none] [] τ = Vv 317 0 43 [some (vR 96 0), some (vI l1), some (vI (nI (i + 1))), none, none] [] σ' ∧ Fr shS τ σ' ∧ SMI σ' R (vsL R r d (nL R) v) i r d
  | 0, l, τ, hl, h => by
    have hbb := h.1.1.b
    have hl : l = nL R := by omega
    subst hl
    exact ⟨τ, by rw [v_M_laysShifts_63, cI_L h.1.1, if_neg (nI_nlt (Nat.le_refl _) (by omega)), nI_1], Fr.rf, h⟩
  | k + 1, l, τ, hl, h => by
    have hbb := h.1.1.b
    obtain ⟨σ1, c1, f1, B1⟩ := s_next74 (v := vsL R r d l v) hd (show l < nL R by omega) l1 (nP R) 0 τ (by omega) h
    obtain ⟨σ2, c2, f2, B2⟩ := s_next63 (v := v) hd l1 k (l + 1) σ1 (by omega) B1
    refine ⟨σ2, ?_, f1.tr f2, B2⟩
    rw [v_M_laysShifts_63, cI_L h.1.1, if_pos (nI_lt (by omega) (by omega))]
    exact c1.trans c2
