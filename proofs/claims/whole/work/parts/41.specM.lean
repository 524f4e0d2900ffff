/-! THE REFERENCE, method by method: worth -/
/-- the worth of a set of marks -/
def wS (w : Nat → Int32) (b : Int32) : Nat → Int32
  | 0 => 0
  | n + 1 => wS w b n + cond (bit b (nI n)) (w n) 0
theorem l_worthOf (σ : St) (a : Int32) (n : Nat) (hn : gI σ 23385 0 4 = nI n) (h7 : n ≤ 7) : ∀ k j, j + k = n → Vv 260 0 4 [some (vR 96 0), some (vI a), some (vI (wS (gI σ 18289 0) a j)), some (vI (nI j))] [] σ = some (some (vI (wS (gI σ 18289 0) a n)), σ)
  | 0, j, h => by
    have hj : j = n := by omega
    subst hj
    rw [v_M_worthOf_4, s_marks, cI_s, hn, if_neg (nI_nlt (Nat.le_refl j) (by omega))]
  | k + 1, j, h => by
    have ih := l_worthOf σ a n hn h7 k (j + 1) (by omega)
    rw [v_M_worthOf_4, s_marks, cI_s, hn, if_pos (nI_lt (show j < n by omega) (by omega)), s_isBit, cI_s, tv_ite]
    have e1 : wS (gI σ 18289 0) a (j + 1) = wS (gI σ 18289 0) a j + cond (bit a (nI j)) (gI σ 18289 0 j) 0 := rfl
    rw [e1, ← nI_1] at ih
    cases hb : bit a (nI j)
    · rw [hb] at ih
      exact ih
    · rw [hb] at ih
      rw [cond_true, ix_nI (show j < 35 by omega) (by omega)]
      exact ih
theorem s_worthOf (σ : St) (a : Int32) (n : Nat) (hn : gI σ 23385 0 4 = nI n) (h7 : n ≤ 7) : Cc 260 0 [vR 96 0, vI a] σ = some (some (vI (wS (gI σ 18289 0) a n)), σ) := by
  rw [c_M_worthOf]
  exact l_worthOf σ a n hn h7 n 0 (by omega)
theorem s_placeWorth (σ : St) (q n : Nat) (hn : gI σ 23385 0 4 = nI n) (h7 : n ≤ 7) (hq : q < 6) : Cc 261 0 [vR 96 0, vI (nI q)] σ = some (some (vI (wS (gI σ 18289 0) (gI σ 3489 0 q) n)), σ) := by
  rw [c_M_placeWorth, ix_nI hq (by omega), s_worthOf σ _ n hn h7, cI_s]
theorem s_hopeOf (σ : St) (q : Nat) (hq : q < 30) : Cc 263 0 [vR 96 0, vI (nI q)] σ = some (some (vI (gI σ 31113 0 (2 * q + 1))), σ) := by
  rw [c_M_hopeOf]
  have e1 : (2 : Int32) * nI q + 1 = nI (2 * q + 1) := by
    rw [← nI_1, ← pk_mul]
    rfl
  rw [e1, ix_nI (by omega) (by omega)]
/-! what is in its bounds -/
theorem s_isSlot (σ : St) (a : Int32) : Cc 205 0 [vI a] σ = some (some (vI (tv (decide ((0 : Int64) ≤ a.toInt64 ∧ a.toInt64 ≤ 3)))), σ) := by
  rw [c_M_isSlot, s_in, cI_s, retZ_tv]
theorem s_isHalf (σ : St) (a : Int32) : Cc 251 0 [vI a] σ = some (some (vI (tv (decide ((0 : Int64) ≤ a.toInt64 ∧ a.toInt64 ≤ 1)))), σ) := by
  rw [c_M_isHalf, s_in, cI_s, retZ_tv]
theorem s_isPlace (σ : St) (a : Int64) : Cc 244 0 [vR 96 0, vL a] σ = some (some (vI (tv (decide ((0 : Int64) ≤ a ∧ a ≤ (gI σ 23385 0 3).toInt64 - 1)))), σ) := by
  rw [c_M_isPlace, s_places, cI_s, s_in, cI_s, retZ_tv]
theorem s_isMark (σ : St) (a : Int64) : Cc 245 0 [vR 96 0, vL a] σ = some (some (vI (tv (decide ((0 : Int64) ≤ a ∧ a ≤ (gI σ 23385 0 4).toInt64 - 1)))), σ) := by
  rw [c_M_isMark, s_marks, cI_s, s_in, cI_s, retZ_tv]
theorem s_isMan (σ : St) (a : Int32) : Cc 247 0 [vR 96 0, vI a] σ = some (some (vI (tv (decide ((0 : Int64) ≤ a.toInt64 ∧ a.toInt64 ≤ (gI σ 23385 0 7).toInt64 - 1)))), σ) := by
  rw [c_M_isMan, s_men, cI_s, s_in, cI_s, retZ_tv]
theorem s_isRoof (σ : St) : Cc 239 0 [vR 96 0] σ = some (some (vI (tv (decide (0 < gI σ 2897 0 0)))), σ) := by
  rw [c_M_isRoof]
  show (if gI σ 2897 0 0 ≤ 0 then retZ 0 σ else retZ 1 σ) = _
  by_cases hq : gI σ 2897 0 0 ≤ 0
  · rw [if_pos hq, retZ_0, decide_eq_false (Int32.not_lt.mpr hq)]
  · rw [if_neg hq, retZ_1, decide_eq_true (Int32.not_le.mp hq)]
theorem s_lessOf (σ : St) (a b : Int32) : Cc 254 0 [vI a, vI b] σ = some (some (vI (if a < b then a else b)), σ) := by
  rw [c_M_lessOf]
  split <;> rfl
theorem s_moreOf (σ : St) (a b : Int32) : Cc 255 0 [vI a, vI b] σ = some (some (vI (if b < a then a else b)), σ) := by
  rw [c_M_moreOf]
  by_cases hq : a ≤ b
  · rw [if_pos hq, if_neg (Int32.not_lt.mpr hq)]
  · rw [if_neg hq, if_pos (Int32.not_le.mp hq)]
