/-! THE LAW: its loop -/
theorem L_default {σ : St} {S : AZ} {i : Nat} (h : JB σ S) : LZP σ i (Vv 372 0 2148 [some (vR 497 0), some (vR 88 0), some (vR 96 0), some (vI (nI i))] [] σ) := ⟨σ, S, rfl, h, fun _ _ => rfl⟩
theorem L_step {σ : St} {S : AZ} {i L : Nat} (h : JB σ S) (hs : gI σ 497 1 0 = nI L) (hi : i + 6 ≤ L) (hL : L ≤ 3072) : LZP σ i (Vv 372 0 18 [some (vR 497 0), some (vR 88 0), some (vR 96 0), some (vI (nI i))] [] σ) := by
  have hc : nI i ≤ Int32.ofNat L - (6 : Int32) := by
    have e2 : (nI L - 6).toInt = (L : Int) - 6 := pk_sub_toInt (b := 6) (by omega) (by omega)
    rw [show Int32.ofNat L = nI L from rfl, Int32.le_iff_toInt_le, nI_toInt (by omega), e2]
    omega
  rw [v_L_law_18, hs, nI_clamp (show L < 2 ^ 31 by omega), if_pos hc, ix_nI (show i < L by omega) (show L < 2 ^ 31 by omega)]
  refine LZP_ite (L_316 h hs hi hL) ?_
  refine LZP_ite (L_379 h hs hi hL) ?_
  refine LZP_ite (L_402 h hs hi hL) ?_
  refine LZP_ite (L_415 h hs hi hL) ?_
  refine LZP_ite (L_438 h hs hi hL) ?_
  refine LZP_ite (L_471 h hs hi hL) ?_
  refine LZP_ite (L_504 h hs hi hL) ?_
  refine LZP_ite (L_537 h hs hi hL) ?_
  refine LZP_ite (L_570 h hs hi hL) ?_
  refine LZP_ite (L_593 h hs hi hL) ?_
  refine LZP_ite (L_616 h hs hi hL) ?_
  refine LZP_ite (L_639 h hs hi hL) ?_
  refine LZP_ite (L_672 h hs hi hL) ?_
  refine LZP_ite (L_695 h hs hi hL) ?_
  refine LZP_ite (L_708 h hs hi hL) ?_
  refine LZP_ite (L_721 h hs hi hL) ?_
  refine LZP_ite (L_734 h hs hi hL) ?_
  refine LZP_ite (L_767 h hs hi hL) ?_
  refine LZP_ite (L_800 h hs hi hL) ?_
  refine LZP_ite (L_833 h hs hi hL) ?_
  refine LZP_ite (L_866 h hs hi hL) ?_
  refine LZP_ite (L_889 h hs hi hL) ?_
  refine LZP_ite (L_902 h hs hi hL) ?_
  refine LZP_ite (L_925 h hs hi hL) ?_
  refine LZP_ite (L_948 h hs hi hL) ?_
  refine LZP_ite (L_971 h hs hi hL) ?_
  refine LZP_ite (L_984 h hs hi hL) ?_
  refine LZP_ite (L_1007 h hs hi hL) ?_
  refine LZP_ite (L_1020 h hs hi hL) ?_
  refine LZP_ite (L_1053 h hs hi hL) ?_
  refine LZP_ite (L_1076 h hs hi hL) ?_
  refine LZP_ite (L_1089 h hs hi hL) ?_
  refine LZP_ite (L_1112 h hs hi hL) ?_
  refine LZP_ite (L_1125 h hs hi hL) ?_
  refine LZP_ite (L_1138 h hs hi hL) ?_
  refine LZP_ite (L_1161 h hs hi hL) ?_
  refine LZP_ite (L_1184 h hs hi hL) ?_
  refine LZP_ite (L_1197 h hs hi hL) ?_
  refine LZP_ite (L_1210 h hs hi hL) ?_
  refine LZP_ite (L_1253 h hs hi hL) ?_
  refine LZP_ite (L_1286 h hs hi hL) ?_
  refine LZP_ite (L_1309 h hs hi hL) ?_
  refine LZP_ite (L_1322 h hs hi hL) ?_
  refine LZP_ite (L_1335 h hs hi hL) ?_
  refine LZP_ite (L_1368 h hs hi hL) ?_
  refine LZP_ite (L_1401 h hs hi hL) ?_
  refine LZP_ite (L_1434 h hs hi hL) ?_
  refine LZP_ite (L_1467 h hs hi hL) ?_
  refine LZP_ite (L_1490 h hs hi hL) ?_
  refine LZP_ite (L_1503 h hs hi hL) ?_
  refine LZP_ite (L_1516 h hs hi hL) ?_
  refine LZP_ite (L_1549 h hs hi hL) ?_
  refine LZP_ite (L_1602 h hs hi hL) ?_
  refine LZP_ite (L_1655 h hs hi hL) ?_
  refine LZP_ite (L_1699 h hs hi hL) ?_
  refine LZP_ite (L_1742 h hs hi hL) ?_
  refine LZP_ite (L_1765 h hs hi hL) ?_
  refine LZP_ite (L_1778 h hs hi hL) ?_
  refine LZP_ite (L_1791 h hs hi hL) ?_
  refine LZP_ite (L_1824 h hs hi hL) ?_
  refine LZP_ite (L_1867 h hs hi hL) ?_
  refine LZP_ite (L_1900 h hs hi hL) ?_
  refine LZP_ite (L_1923 h hs hi hL) ?_
  refine LZP_ite (L_1946 h hs hi hL) ?_
  refine LZP_ite (L_1969 h hs hi hL) ?_
  refine LZP_ite (L_2012 h hs hi hL) ?_
  refine LZP_ite (L_2085 h hs hi hL) ?_
  exact L_default h
theorem L_loop {L : Nat} (hL : L ≤ 3072) : ∀ (k i : Nat) (σ : St) (S : AZ), L ≤ i + 6 * k → i ≤ L + 6 → JB σ S → gI σ 497 1 0 = nI L → ∃ σ', Vv 372 0 18 [some (vR 497 0), some (vR 88 0), some (vR 96 0), some (vI (nI i))] [] σ = some (some (vI (tv true)), σ')
  | 0, i, σ, S, hk, hi, h, hs => by
    have hc : ¬ nI i ≤ Int32.ofNat L - (6 : Int32) := by
      have e2 : (nI L - 6).toInt = (L : Int) - 6 := pk_sub_toInt (b := 6) (by omega) (by omega)
      rw [show Int32.ofNat L = nI L from rfl, Int32.le_iff_toInt_le, nI_toInt (by omega), e2]
      omega
    exact ⟨σ, by rw [v_L_law_18, hs, nI_clamp (show L < 2 ^ 31 by omega), if_neg hc, retZ_1]⟩
  | k + 1, i, σ, S, hk, hi, h, hs => by
    by_cases hq : i + 6 ≤ L
    · obtain ⟨σ1, S1, c1, j1, s1⟩ := L_step h hs hq hL
      obtain ⟨σ2, c2⟩ := L_loop hL k (i + 6) σ1 S1 (by omega) (by omega) j1 ((s1 1 0).trans hs)
      refine ⟨σ2, ?_⟩
      rw [c1, v_L_law_2148, show nI i + 6 = nI (i + 6) from nI_add i 6]
      exact c2
    · have hc : ¬ nI i ≤ Int32.ofNat L - (6 : Int32) := by
        have e2 : (nI L - 6).toInt = (L : Int) - 6 := pk_sub_toInt (b := 6) (by omega) (by omega)
        rw [show Int32.ofNat L = nI L from rfl, Int32.le_iff_toInt_le, nI_toInt (by omega), e2]
        omega
      exact ⟨σ, by rw [v_L_law_18, hs, nI_clamp (show L < 2 ^ 31 by omega), if_neg hc, retZ_1]⟩
/-- the law answers true, from any store in which both hold the same -/
theorem L_law {L : Nat} (hL : L ≤ 3072) {σ : St} {S : AZ} (h : JB σ S) (hs : gI σ 497 1 0 = nI L) : ∃ σ', Vv 372 0 18 [some (vR 497 0), some (vR 88 0), some (vR 96 0), some (vI 0)] [] σ = some (some (vI (tv true)), σ') := L_loop hL 512 0 σ S (by omega) (by omega) h hs
