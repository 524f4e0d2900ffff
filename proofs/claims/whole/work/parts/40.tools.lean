/-! TOOLS: how a call's equation is used -/
theorem cI_s (x : Int32) (s : St) (k : Int32 → St → Option AR) : cI (some (some (.inl x), s)) k = k x s := rfl
theorem cL_s (x : Int64) (s : St) (k : Int64 → St → Option AR) : cL (some (some (.inr (.inl x)), s)) k = k x s := rfl
theorem cV_s (s : St) (k : St → Option AR) : cV (some (none, s)) k = k s := rfl
/-- a truth value as the machine has it -/
def tv (b : Bool) : Int32 := cond b 1 0
theorem tv_t : tv true = 1 := rfl
theorem tv_f : tv false = 0 := rfl
theorem tv_0 (b : Bool) : (tv b = 0) = (b = false) := by cases b <;> simp [tv] <;> decide
theorem tv_1 (b : Bool) : (tv b = 1) = (b = true) := by cases b <;> simp [tv] <;> decide
theorem retZ_0 (s : St) : retZ 0 s = some (some (.inl (tv false)), s) := rfl
theorem retZ_1 (s : St) : retZ 1 s = some (some (.inl (tv true)), s) := rfl
theorem retZ_tv (b : Bool) (s : St) : retZ (tv b) s = some (some (.inl (tv b)), s) := by cases b <;> rfl
theorem tv_ite {β : Type} (b : Bool) (x y : β) : (if tv b = 0 then x else y) = cond b y x := by cases b <;> rfl
theorem ix_nI {k n : Nat} {f : Nat → Option AR} (h : k < n) (hn : n < 2 ^ 31) : ix (nI k) n f = f k := by
  unfold ix
  rw [if_neg (nI_in h hn), nI_clamp (by omega)]
theorem lg_lt0 (x y : Int64) : (lg_cmp x y < 0) = (x < y) := by
  unfold lg_cmp
  by_cases h1 : x > y
  · rw [if_pos h1]
    have : ¬ x < y := fun h => Int64.lt_irrefl (Int64.lt_trans h h1)
    simp only [this, eq_iff_iff, iff_false]
    decide
  · rw [if_neg h1]
    by_cases h2 : x = y
    · subst h2
      simp [Int64.lt_irrefl]
    · have : x < y := by
        rcases Int64.lt_or_le x y with h | h
        · exact h
        · exact absurd (Int64.lt_of_le_of_ne h (Ne.symm h2)) h1
      simp only [h2, if_false, this, eq_iff_iff, iff_true]
      decide
theorem lg_le0 (x y : Int64) : (lg_cmp x y ≤ 0) = (x ≤ y) := by
  unfold lg_cmp
  by_cases h1 : x > y
  · rw [if_pos h1]
    have : ¬ x ≤ y := Int64.not_le.mpr h1
    simp only [this, eq_iff_iff, iff_false]
    decide
  · have : x ≤ y := Int64.not_lt.mp h1
    rw [if_neg h1]
    by_cases h2 : x = y
    · simp [h2, Int64.le_refl]
    · simp only [h2, if_false, this, eq_iff_iff, iff_true]
      decide
theorem lg_eq0 (x y : Int64) : (lg_cmp x y = 0) = (x = y) := by
  unfold lg_cmp
  by_cases h1 : x > y
  · rw [if_pos h1]
    have : ¬ x = y := fun h => by rw [h] at h1; exact Int64.lt_irrefl h1
    simp only [this, eq_iff_iff, iff_false]
    decide
  · rw [if_neg h1]
    by_cases h2 : x = y
    · simp [h2]
    · simp only [h2, if_false, eq_iff_iff, iff_false]
      decide
/-! the reference's smallest -/
theorem s_in (σ : St) (v lo hi : Int64) : Cc 204 0 [vL v, vL lo, vL hi] σ = some (some (vI (tv (decide (lo ≤ v ∧ v ≤ hi)))), σ) := by
  rw [c_M_in]
  simp only [lg_lt0, lg_le0, retZ_0, retZ_1]
  by_cases h1 : v < lo
  · have : ¬ lo ≤ v := Int64.not_le.mpr h1
    simp [h1, this]
  · have h2 : lo ≤ v := Int64.not_lt.mp h1
    by_cases h3 : v ≤ hi <;> simp [h1, h2, h3]
theorem s_places (σ : St) : Cc 240 0 [vR 96 0] σ = some (some (vI (gI σ 23385 0 3)), σ) := by
  rw [c_M_places]
  rfl
theorem s_marks (σ : St) : Cc 241 0 [vR 96 0] σ = some (some (vI (gI σ 23385 0 4)), σ) := by
  rw [c_M_marks]
  rfl
theorem s_men (σ : St) : Cc 242 0 [vR 96 0] σ = some (some (vI (gI σ 23385 0 7)), σ) := by
  rw [c_M_men]
  rfl
theorem s_years (σ : St) : Cc 243 0 [vR 96 0] σ = some (some (vI (gI σ 23385 0 0)), σ) := by
  rw [c_M_years]
  rfl
/-- a bit, as both programs ask for it -/
def bit (x k : Int32) : Bool := decide ((x >>> (k &&& 31)) &&& 1 = 1)
theorem s_isBit (σ : St) (x k : Int32) : Cc 252 0 [vI x, vI k] σ = some (some (vI (tv (bit x k))), σ) := by
  rw [c_M_isBit]
  unfold bit
  by_cases h : (x >>> (k &&& 31)) &&& 1 = 1
  · simp [h, retZ_0, retZ_1]
  · simp [h, retZ_0, retZ_1]
