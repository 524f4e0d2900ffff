/-! THE REFERENCE: rate, counts, images -/
/-- a row is copied within its array -/
def cpR (σ : St) (t n a b : Nat) : St := pI σ t 0 (fun q => if n * b ≤ q ∧ q < n * b + n then gI σ t 0 (n * a + (q - n * b)) else gI σ t 0 q)
theorem cpR_s (σ : St) (t n a b q : Nat) : gI (cpR σ t n a b) t 0 q = if n * b ≤ q ∧ q < n * b + n then gI σ t 0 (n * a + (q - n * b)) else gI σ t 0 q := gI_pIs _ _ _ _ _
theorem cpR_n {σ : St} {t n a b t' i' j' : Nat} (h : t' ≠ t) : gI (cpR σ t n a b) t' i' j' = gI σ t' i' j' := gI_pIn h
def cpS (t _i _j : Nat) : Bool := Nat.beq t 2897 || Nat.beq t 23385 || Nat.beq t 31073 || Nat.beq t 36201 || Nat.beq t 18289 || Nat.beq t 31097 || Nat.beq t 51585 || Nat.beq t 31113 || Nat.beq t 307601
theorem mul_sep {n a b : Nat} (h : a ≠ b) : n * a + n ≤ n * b ∨ n * b + n ≤ n * a := by
  rcases Nat.lt_or_gt_of_ne h with h | h
  · exact Or.inl (by have := Nat.mul_le_mul_left n (show a + 1 ≤ b from h); rw [Nat.mul_succ] at this; exact this)
  · exact Or.inr (by have := Nat.mul_le_mul_left n (show b + 1 ≤ a from h); rw [Nat.mul_succ] at this; exact this)
theorem s_copyRow_0 {σ : St} {a b : Nat} (ha : a < 5) (hb : b < 5) (hab : a ≠ b) : Cc 237 0 [vR 2897 0, vI 1, vI (nI a), vI (nI b)] σ = some (none, cpR σ 2897 1 a b) := by
  rw [c_M_copyRow_0]
  have hsep := mul_sep (n := 1) hab
  have hl := lpU (V := fun j => Vv 237 0 3 [some (vR 2897 0), some (vI 1), some (vI (nI a)), some (vI (nI b)), some (vI (nI j))] [] (pI σ 2897 0 (fun q => if 1 * b ≤ q ∧ q < 1 * b + j then gI σ 2897 0 (1 * a + (q - 1 * b)) else gI σ 2897 0 q))) (n := 1) (fun j hj => by
    show Vv _ _ _ _ _ _ = Vv _ _ _ _ _ _
    have e1 : (1 : Int32) * nI a = nI (1 * a) := pk_mul 1 a
    have e2 : (1 : Int32) * nI b = nI (1 * b) := pk_mul 1 b
    have e3 : nI j < (1 : Int32) := nI_lt (b := 1) hj (by omega)
    rw [v_M_copyRow_3_0, if_pos e3, e1, e2, nI_add, nI_add, ix_nI (by omega) (by omega), ix_nI (by omega) (by omega), gI_pIs, if_neg (by omega), sI_pI, nI_1]
    congr 2
    funext q
    unfold upd
    try dsimp only
    by_cases hq : q = 1 * b + j
    · rw [if_pos hq, if_pos (by omega), show 1 * a + (q - 1 * b) = 1 * a + j by omega]
    · rw [if_neg hq]
      by_cases hq2 : 1 * b ≤ q ∧ q < 1 * b + j
      · rw [if_pos hq2, if_pos (by omega)]
      · rw [if_neg hq2, if_neg (by omega)])
  have e0 : pI σ 2897 0 (fun q => if 1 * b ≤ q ∧ q < 1 * b + 0 then gI σ 2897 0 (1 * a + (q - 1 * b)) else gI σ 2897 0 q) = σ := by
    have : (fun q => if 1 * b ≤ q ∧ q < 1 * b + 0 then gI σ 2897 0 (1 * a + (q - 1 * b)) else gI σ 2897 0 q) = gI σ 2897 0 := by
      funext q
      rw [if_neg (by omega)]
    rw [this, pI_id]
  have hl : Vv 237 0 3 [some (vR 2897 0), some (vI 1), some (vI (nI a)), some (vI (nI b)), some (vI (nI 0))] [] (pI σ 2897 0 (fun q => if 1 * b ≤ q ∧ q < 1 * b + 0 then gI σ 2897 0 (1 * a + (q - 1 * b)) else gI σ 2897 0 q)) = Vv 237 0 3 [some (vR 2897 0), some (vI 1), some (vI (nI a)), some (vI (nI b)), some (vI (nI 1))] [] (cpR σ 2897 1 a b) := hl
  rw [e0] at hl
  refine Eq.trans hl ?_
  have e3 : ¬ nI 1 < (1 : Int32) := by decide
  rw [v_M_copyRow_3_0, if_neg e3]
theorem s_copyRow_1 {σ : St} {a b : Nat} (ha : a < 5) (hb : b < 5) (hab : a ≠ b) : Cc 237 0 [vR 23385 0, vI 9, vI (nI a), vI (nI b)] σ = some (none, cpR σ 23385 9 a b) := by
  rw [c_M_copyRow_1]
  have hsep := mul_sep (n := 9) hab
  have hl := lpU (V := fun j => Vv 237 0 3 [some (vR 23385 0), some (vI 9), some (vI (nI a)), some (vI (nI b)), some (vI (nI j))] [] (pI σ 23385 0 (fun q => if 9 * b ≤ q ∧ q < 9 * b + j then gI σ 23385 0 (9 * a + (q - 9 * b)) else gI σ 23385 0 q))) (n := 9) (fun j hj => by
    show Vv _ _ _ _ _ _ = Vv _ _ _ _ _ _
    have e1 : (9 : Int32) * nI a = nI (9 * a) := pk_mul 9 a
    have e2 : (9 : Int32) * nI b = nI (9 * b) := pk_mul 9 b
    have e3 : nI j < (9 : Int32) := nI_lt (b := 9) hj (by omega)
    rw [v_M_copyRow_3_1, if_pos e3, e1, e2, nI_add, nI_add, ix_nI (by omega) (by omega), ix_nI (by omega) (by omega), gI_pIs, if_neg (by omega), sI_pI, nI_1]
    congr 2
    funext q
    unfold upd
    try dsimp only
    by_cases hq : q = 9 * b + j
    · rw [if_pos hq, if_pos (by omega), show 9 * a + (q - 9 * b) = 9 * a + j by omega]
    · rw [if_neg hq]
      by_cases hq2 : 9 * b ≤ q ∧ q < 9 * b + j
      · rw [if_pos hq2, if_pos (by omega)]
      · rw [if_neg hq2, if_neg (by omega)])
  have e0 : pI σ 23385 0 (fun q => if 9 * b ≤ q ∧ q < 9 * b + 0 then gI σ 23385 0 (9 * a + (q - 9 * b)) else gI σ 23385 0 q) = σ := by
    have : (fun q => if 9 * b ≤ q ∧ q < 9 * b + 0 then gI σ 23385 0 (9 * a + (q - 9 * b)) else gI σ 23385 0 q) = gI σ 23385 0 := by
      funext q
      rw [if_neg (by omega)]
    rw [this, pI_id]
  have hl : Vv 237 0 3 [some (vR 23385 0), some (vI 9), some (vI (nI a)), some (vI (nI b)), some (vI (nI 0))] [] (pI σ 23385 0 (fun q => if 9 * b ≤ q ∧ q < 9 * b + 0 then gI σ 23385 0 (9 * a + (q - 9 * b)) else gI σ 23385 0 q)) = Vv 237 0 3 [some (vR 23385 0), some (vI 9), some (vI (nI a)), some (vI (nI b)), some (vI (nI 9))] [] (cpR σ 23385 9 a b) := hl
  rw [e0] at hl
  refine Eq.trans hl ?_
  have e3 : ¬ nI 9 < (9 : Int32) := by decide
  rw [v_M_copyRow_3_1, if_neg e3]
theorem s_copyRow_2 {σ : St} {a b : Nat} (ha : a < 5) (hb : b < 5) (hab : a ≠ b) : Cc 237 0 [vR 31073 0, vI 12, vI (nI a), vI (nI b)] σ = some (none, cpR σ 31073 12 a b) := by
  rw [c_M_copyRow_2]
  have hsep := mul_sep (n := 12) hab
  have hl := lpU (V := fun j => Vv 237 0 3 [some (vR 31073 0), some (vI 12), some (vI (nI a)), some (vI (nI b)), some (vI (nI j))] [] (pI σ 31073 0 (fun q => if 12 * b ≤ q ∧ q < 12 * b + j then gI σ 31073 0 (12 * a + (q - 12 * b)) else gI σ 31073 0 q))) (n := 12) (fun j hj => by
    show Vv _ _ _ _ _ _ = Vv _ _ _ _ _ _
    have e1 : (12 : Int32) * nI a = nI (12 * a) := pk_mul 12 a
    have e2 : (12 : Int32) * nI b = nI (12 * b) := pk_mul 12 b
    have e3 : nI j < (12 : Int32) := nI_lt (b := 12) hj (by omega)
    rw [v_M_copyRow_3_2, if_pos e3, e1, e2, nI_add, nI_add, ix_nI (by omega) (by omega), ix_nI (by omega) (by omega), gI_pIs, if_neg (by omega), sI_pI, nI_1]
    congr 2
    funext q
    unfold upd
    try dsimp only
    by_cases hq : q = 12 * b + j
    · rw [if_pos hq, if_pos (by omega), show 12 * a + (q - 12 * b) = 12 * a + j by omega]
    · rw [if_neg hq]
      by_cases hq2 : 12 * b ≤ q ∧ q < 12 * b + j
      · rw [if_pos hq2, if_pos (by omega)]
      · rw [if_neg hq2, if_neg (by omega)])
  have e0 : pI σ 31073 0 (fun q => if 12 * b ≤ q ∧ q < 12 * b + 0 then gI σ 31073 0 (12 * a + (q - 12 * b)) else gI σ 31073 0 q) = σ := by
    have : (fun q => if 12 * b ≤ q ∧ q < 12 * b + 0 then gI σ 31073 0 (12 * a + (q - 12 * b)) else gI σ 31073 0 q) = gI σ 31073 0 := by
      funext q
      rw [if_neg (by omega)]
    rw [this, pI_id]
  have hl : Vv 237 0 3 [some (vR 31073 0), some (vI 12), some (vI (nI a)), some (vI (nI b)), some (vI (nI 0))] [] (pI σ 31073 0 (fun q => if 12 * b ≤ q ∧ q < 12 * b + 0 then gI σ 31073 0 (12 * a + (q - 12 * b)) else gI σ 31073 0 q)) = Vv 237 0 3 [some (vR 31073 0), some (vI 12), some (vI (nI a)), some (vI (nI b)), some (vI (nI 12))] [] (cpR σ 31073 12 a b) := hl
  rw [e0] at hl
  refine Eq.trans hl ?_
  have e3 : ¬ nI 12 < (12 : Int32) := by decide
  rw [v_M_copyRow_3_2, if_neg e3]
theorem s_copyRow_3 {σ : St} {a b : Nat} (ha : a < 5) (hb : b < 5) (hab : a ≠ b) : Cc 237 0 [vR 36201 0, vI 14, vI (nI a), vI (nI b)] σ = some (none, cpR σ 36201 14 a b) := by
  rw [c_M_copyRow_3]
  have hsep := mul_sep (n := 14) hab
  have hl := lpU (V := fun j => Vv 237 0 3 [some (vR 36201 0), some (vI 14), some (vI (nI a)), some (vI (nI b)), some (vI (nI j))] [] (pI σ 36201 0 (fun q => if 14 * b ≤ q ∧ q < 14 * b + j then gI σ 36201 0 (14 * a + (q - 14 * b)) else gI σ 36201 0 q))) (n := 14) (fun j hj => by
    show Vv _ _ _ _ _ _ = Vv _ _ _ _ _ _
    have e1 : (14 : Int32) * nI a = nI (14 * a) := pk_mul 14 a
    have e2 : (14 : Int32) * nI b = nI (14 * b) := pk_mul 14 b
    have e3 : nI j < (14 : Int32) := nI_lt (b := 14) hj (by omega)
    rw [v_M_copyRow_3_3, if_pos e3, e1, e2, nI_add, nI_add, ix_nI (by omega) (by omega), ix_nI (by omega) (by omega), gI_pIs, if_neg (by omega), sI_pI, nI_1]
    congr 2
    funext q
    unfold upd
    try dsimp only
    by_cases hq : q = 14 * b + j
    · rw [if_pos hq, if_pos (by omega), show 14 * a + (q - 14 * b) = 14 * a + j by omega]
    · rw [if_neg hq]
      by_cases hq2 : 14 * b ≤ q ∧ q < 14 * b + j
      · rw [if_pos hq2, if_pos (by omega)]
      · rw [if_neg hq2, if_neg (by omega)])
  have e0 : pI σ 36201 0 (fun q => if 14 * b ≤ q ∧ q < 14 * b + 0 then gI σ 36201 0 (14 * a + (q - 14 * b)) else gI σ 36201 0 q) = σ := by
    have : (fun q => if 14 * b ≤ q ∧ q < 14 * b + 0 then gI σ 36201 0 (14 * a + (q - 14 * b)) else gI σ 36201 0 q) = gI σ 36201 0 := by
      funext q
      rw [if_neg (by omega)]
    rw [this, pI_id]
  have hl : Vv 237 0 3 [some (vR 36201 0), some (vI 14), some (vI (nI a)), some (vI (nI b)), some (vI (nI 0))] [] (pI σ 36201 0 (fun q => if 14 * b ≤ q ∧ q < 14 * b + 0 then gI σ 36201 0 (14 * a + (q - 14 * b)) else gI σ 36201 0 q)) = Vv 237 0 3 [some (vR 36201 0), some (vI 14), some (vI (nI a)), some (vI (nI b)), some (vI (nI 14))] [] (cpR σ 36201 14 a b) := hl
  rw [e0] at hl
  refine Eq.trans hl ?_
  have e3 : ¬ nI 14 < (14 : Int32) := by decide
  rw [v_M_copyRow_3_3, if_neg e3]
theorem s_copyRow_4 {σ : St} {a b : Nat} (ha : a < 5) (hb : b < 5) (hab : a ≠ b) : Cc 237 0 [vR 18289 0, vI 7, vI (nI a), vI (nI b)] σ = some (none, cpR σ 18289 7 a b) := by
  rw [c_M_copyRow_4]
  have hsep := mul_sep (n := 7) hab
  have hl := lpU (V := fun j => Vv 237 0 3 [some (vR 18289 0), some (vI 7), some (vI (nI a)), some (vI (nI b)), some (vI (nI j))] [] (pI σ 18289 0 (fun q => if 7 * b ≤ q ∧ q < 7 * b + j then gI σ 18289 0 (7 * a + (q - 7 * b)) else gI σ 18289 0 q))) (n := 7) (fun j hj => by
    show Vv _ _ _ _ _ _ = Vv _ _ _ _ _ _
    have e1 : (7 : Int32) * nI a = nI (7 * a) := pk_mul 7 a
    have e2 : (7 : Int32) * nI b = nI (7 * b) := pk_mul 7 b
    have e3 : nI j < (7 : Int32) := nI_lt (b := 7) hj (by omega)
    rw [v_M_copyRow_3_4, if_pos e3, e1, e2, nI_add, nI_add, ix_nI (by omega) (by omega), ix_nI (by omega) (by omega), gI_pIs, if_neg (by omega), sI_pI, nI_1]
    congr 2
    funext q
    unfold upd
    try dsimp only
    by_cases hq : q = 7 * b + j
    · rw [if_pos hq, if_pos (by omega), show 7 * a + (q - 7 * b) = 7 * a + j by omega]
    · rw [if_neg hq]
      by_cases hq2 : 7 * b ≤ q ∧ q < 7 * b + j
      · rw [if_pos hq2, if_pos (by omega)]
      · rw [if_neg hq2, if_neg (by omega)])
  have e0 : pI σ 18289 0 (fun q => if 7 * b ≤ q ∧ q < 7 * b + 0 then gI σ 18289 0 (7 * a + (q - 7 * b)) else gI σ 18289 0 q) = σ := by
    have : (fun q => if 7 * b ≤ q ∧ q < 7 * b + 0 then gI σ 18289 0 (7 * a + (q - 7 * b)) else gI σ 18289 0 q) = gI σ 18289 0 := by
      funext q
      rw [if_neg (by omega)]
    rw [this, pI_id]
  have hl : Vv 237 0 3 [some (vR 18289 0), some (vI 7), some (vI (nI a)), some (vI (nI b)), some (vI (nI 0))] [] (pI σ 18289 0 (fun q => if 7 * b ≤ q ∧ q < 7 * b + 0 then gI σ 18289 0 (7 * a + (q - 7 * b)) else gI σ 18289 0 q)) = Vv 237 0 3 [some (vR 18289 0), some (vI 7), some (vI (nI a)), some (vI (nI b)), some (vI (nI 7))] [] (cpR σ 18289 7 a b) := hl
  rw [e0] at hl
  refine Eq.trans hl ?_
  have e3 : ¬ nI 7 < (7 : Int32) := by decide
  rw [v_M_copyRow_3_4, if_neg e3]
theorem s_copyRow_5 {σ : St} {a b : Nat} (ha : a < 5) (hb : b < 5) (hab : a ≠ b) : Cc 237 0 [vR 31097 0, vI 12, vI (nI a), vI (nI b)] σ = some (none, cpR σ 31097 12 a b) := by
  rw [c_M_copyRow_5]
  have hsep := mul_sep (n := 12) hab
  have hl := lpU (V := fun j => Vv 237 0 3 [some (vR 31097 0), some (vI 12), some (vI (nI a)), some (vI (nI b)), some (vI (nI j))] [] (pI σ 31097 0 (fun q => if 12 * b ≤ q ∧ q < 12 * b + j then gI σ 31097 0 (12 * a + (q - 12 * b)) else gI σ 31097 0 q))) (n := 12) (fun j hj => by
    show Vv _ _ _ _ _ _ = Vv _ _ _ _ _ _
    have e1 : (12 : Int32) * nI a = nI (12 * a) := pk_mul 12 a
    have e2 : (12 : Int32) * nI b = nI (12 * b) := pk_mul 12 b
    have e3 : nI j < (12 : Int32) := nI_lt (b := 12) hj (by omega)
    rw [v_M_copyRow_3_5, if_pos e3, e1, e2, nI_add, nI_add, ix_nI (by omega) (by omega), ix_nI (by omega) (by omega), gI_pIs, if_neg (by omega), sI_pI, nI_1]
    congr 2
    funext q
    unfold upd
    try dsimp only
    by_cases hq : q = 12 * b + j
    · rw [if_pos hq, if_pos (by omega), show 12 * a + (q - 12 * b) = 12 * a + j by omega]
    · rw [if_neg hq]
      by_cases hq2 : 12 * b ≤ q ∧ q < 12 * b + j
      · rw [if_pos hq2, if_pos (by omega)]
      · rw [if_neg hq2, if_neg (by omega)])
  have e0 : pI σ 31097 0 (fun q => if 12 * b ≤ q ∧ q < 12 * b + 0 then gI σ 31097 0 (12 * a + (q - 12 * b)) else gI σ 31097 0 q) = σ := by
    have : (fun q => if 12 * b ≤ q ∧ q < 12 * b + 0 then gI σ 31097 0 (12 * a + (q - 12 * b)) else gI σ 31097 0 q) = gI σ 31097 0 := by
      funext q
      rw [if_neg (by omega)]
    rw [this, pI_id]
  have hl : Vv 237 0 3 [some (vR 31097 0), some (vI 12), some (vI (nI a)), some (vI (nI b)), some (vI (nI 0))] [] (pI σ 31097 0 (fun q => if 12 * b ≤ q ∧ q < 12 * b + 0 then gI σ 31097 0 (12 * a + (q - 12 * b)) else gI σ 31097 0 q)) = Vv 237 0 3 [some (vR 31097 0), some (vI 12), some (vI (nI a)), some (vI (nI b)), some (vI (nI 12))] [] (cpR σ 31097 12 a b) := hl
  rw [e0] at hl
  refine Eq.trans hl ?_
  have e3 : ¬ nI 12 < (12 : Int32) := by decide
  rw [v_M_copyRow_3_5, if_neg e3]
theorem s_copyRow_6 {σ : St} {a b : Nat} (ha : a < 5) (hb : b < 5) (hab : a ≠ b) : Cc 237 0 [vR 51585 0, vI 20, vI (nI a), vI (nI b)] σ = some (none, cpR σ 51585 20 a b) := by
  rw [c_M_copyRow_6]
  have hsep := mul_sep (n := 20) hab
  have hl := lpU (V := fun j => Vv 237 0 3 [some (vR 51585 0), some (vI 20), some (vI (nI a)), some (vI (nI b)), some (vI (nI j))] [] (pI σ 51585 0 (fun q => if 20 * b ≤ q ∧ q < 20 * b + j then gI σ 51585 0 (20 * a + (q - 20 * b)) else gI σ 51585 0 q))) (n := 20) (fun j hj => by
    show Vv _ _ _ _ _ _ = Vv _ _ _ _ _ _
    have e1 : (20 : Int32) * nI a = nI (20 * a) := pk_mul 20 a
    have e2 : (20 : Int32) * nI b = nI (20 * b) := pk_mul 20 b
    have e3 : nI j < (20 : Int32) := nI_lt (b := 20) hj (by omega)
    rw [v_M_copyRow_3_6, if_pos e3, e1, e2, nI_add, nI_add, ix_nI (by omega) (by omega), ix_nI (by omega) (by omega), gI_pIs, if_neg (by omega), sI_pI, nI_1]
    congr 2
    funext q
    unfold upd
    try dsimp only
    by_cases hq : q = 20 * b + j
    · rw [if_pos hq, if_pos (by omega), show 20 * a + (q - 20 * b) = 20 * a + j by omega]
    · rw [if_neg hq]
      by_cases hq2 : 20 * b ≤ q ∧ q < 20 * b + j
      · rw [if_pos hq2, if_pos (by omega)]
      · rw [if_neg hq2, if_neg (by omega)])
  have e0 : pI σ 51585 0 (fun q => if 20 * b ≤ q ∧ q < 20 * b + 0 then gI σ 51585 0 (20 * a + (q - 20 * b)) else gI σ 51585 0 q) = σ := by
    have : (fun q => if 20 * b ≤ q ∧ q < 20 * b + 0 then gI σ 51585 0 (20 * a + (q - 20 * b)) else gI σ 51585 0 q) = gI σ 51585 0 := by
      funext q
      rw [if_neg (by omega)]
    rw [this, pI_id]
  have hl : Vv 237 0 3 [some (vR 51585 0), some (vI 20), some (vI (nI a)), some (vI (nI b)), some (vI (nI 0))] [] (pI σ 51585 0 (fun q => if 20 * b ≤ q ∧ q < 20 * b + 0 then gI σ 51585 0 (20 * a + (q - 20 * b)) else gI σ 51585 0 q)) = Vv 237 0 3 [some (vR 51585 0), some (vI 20), some (vI (nI a)), some (vI (nI b)), some (vI (nI 20))] [] (cpR σ 51585 20 a b) := hl
  rw [e0] at hl
  refine Eq.trans hl ?_
  have e3 : ¬ nI 20 < (20 : Int32) := by decide
  rw [v_M_copyRow_3_6, if_neg e3]
theorem s_copyRow_7 {σ : St} {a b : Nat} (ha : a < 5) (hb : b < 5) (hab : a ≠ b) : Cc 237 0 [vR 31113 0, vI 12, vI (nI a), vI (nI b)] σ = some (none, cpR σ 31113 12 a b) := by
  rw [c_M_copyRow_7]
  have hsep := mul_sep (n := 12) hab
  have hl := lpU (V := fun j => Vv 237 0 3 [some (vR 31113 0), some (vI 12), some (vI (nI a)), some (vI (nI b)), some (vI (nI j))] [] (pI σ 31113 0 (fun q => if 12 * b ≤ q ∧ q < 12 * b + j then gI σ 31113 0 (12 * a + (q - 12 * b)) else gI σ 31113 0 q))) (n := 12) (fun j hj => by
    show Vv _ _ _ _ _ _ = Vv _ _ _ _ _ _
    have e1 : (12 : Int32) * nI a = nI (12 * a) := pk_mul 12 a
    have e2 : (12 : Int32) * nI b = nI (12 * b) := pk_mul 12 b
    have e3 : nI j < (12 : Int32) := nI_lt (b := 12) hj (by omega)
    rw [v_M_copyRow_3_7, if_pos e3, e1, e2, nI_add, nI_add, ix_nI (by omega) (by omega), ix_nI (by omega) (by omega), gI_pIs, if_neg (by omega), sI_pI, nI_1]
    congr 2
    funext q
    unfold upd
    try dsimp only
    by_cases hq : q = 12 * b + j
    · rw [if_pos hq, if_pos (by omega), show 12 * a + (q - 12 * b) = 12 * a + j by omega]
    · rw [if_neg hq]
      by_cases hq2 : 12 * b ≤ q ∧ q < 12 * b + j
      · rw [if_pos hq2, if_pos (by omega)]
      · rw [if_neg hq2, if_neg (by omega)])
  have e0 : pI σ 31113 0 (fun q => if 12 * b ≤ q ∧ q < 12 * b + 0 then gI σ 31113 0 (12 * a + (q - 12 * b)) else gI σ 31113 0 q) = σ := by
    have : (fun q => if 12 * b ≤ q ∧ q < 12 * b + 0 then gI σ 31113 0 (12 * a + (q - 12 * b)) else gI σ 31113 0 q) = gI σ 31113 0 := by
      funext q
      rw [if_neg (by omega)]
    rw [this, pI_id]
  have hl : Vv 237 0 3 [some (vR 31113 0), some (vI 12), some (vI (nI a)), some (vI (nI b)), some (vI (nI 0))] [] (pI σ 31113 0 (fun q => if 12 * b ≤ q ∧ q < 12 * b + 0 then gI σ 31113 0 (12 * a + (q - 12 * b)) else gI σ 31113 0 q)) = Vv 237 0 3 [some (vR 31113 0), some (vI 12), some (vI (nI a)), some (vI (nI b)), some (vI (nI 12))] [] (cpR σ 31113 12 a b) := hl
  rw [e0] at hl
  refine Eq.trans hl ?_
  have e3 : ¬ nI 12 < (12 : Int32) := by decide
  rw [v_M_copyRow_3_7, if_neg e3]
theorem s_copyRow_8 {σ : St} {a b : Nat} (ha : a < 5) (hb : b < 5) (hab : a ≠ b) : Cc 237 0 [vR 307601 0, vI 120, vI (nI a), vI (nI b)] σ = some (none, cpR σ 307601 120 a b) := by
  rw [c_M_copyRow_8]
  have hsep := mul_sep (n := 120) hab
  have hl := lpU (V := fun j => Vv 237 0 3 [some (vR 307601 0), some (vI 120), some (vI (nI a)), some (vI (nI b)), some (vI (nI j))] [] (pI σ 307601 0 (fun q => if 120 * b ≤ q ∧ q < 120 * b + j then gI σ 307601 0 (120 * a + (q - 120 * b)) else gI σ 307601 0 q))) (n := 120) (fun j hj => by
    show Vv _ _ _ _ _ _ = Vv _ _ _ _ _ _
    have e1 : (120 : Int32) * nI a = nI (120 * a) := pk_mul 120 a
    have e2 : (120 : Int32) * nI b = nI (120 * b) := pk_mul 120 b
    have e3 : nI j < (120 : Int32) := nI_lt (b := 120) hj (by omega)
    rw [v_M_copyRow_3_8, if_pos e3, e1, e2, nI_add, nI_add, ix_nI (by omega) (by omega), ix_nI (by omega) (by omega), gI_pIs, if_neg (by omega), sI_pI, nI_1]
    congr 2
    funext q
    unfold upd
    try dsimp only
    by_cases hq : q = 120 * b + j
    · rw [if_pos hq, if_pos (by omega), show 120 * a + (q - 120 * b) = 120 * a + j by omega]
    · rw [if_neg hq]
      by_cases hq2 : 120 * b ≤ q ∧ q < 120 * b + j
      · rw [if_pos hq2, if_pos (by omega)]
      · rw [if_neg hq2, if_neg (by omega)])
  have e0 : pI σ 307601 0 (fun q => if 120 * b ≤ q ∧ q < 120 * b + 0 then gI σ 307601 0 (120 * a + (q - 120 * b)) else gI σ 307601 0 q) = σ := by
    have : (fun q => if 120 * b ≤ q ∧ q < 120 * b + 0 then gI σ 307601 0 (120 * a + (q - 120 * b)) else gI σ 307601 0 q) = gI σ 307601 0 := by
      funext q
      rw [if_neg (by omega)]
    rw [this, pI_id]
  have hl : Vv 237 0 3 [some (vR 307601 0), some (vI 120), some (vI (nI a)), some (vI (nI b)), some (vI (nI 0))] [] (pI σ 307601 0 (fun q => if 120 * b ≤ q ∧ q < 120 * b + 0 then gI σ 307601 0 (120 * a + (q - 120 * b)) else gI σ 307601 0 q)) = Vv 237 0 3 [some (vR 307601 0), some (vI 120), some (vI (nI a)), some (vI (nI b)), some (vI (nI 120))] [] (cpR σ 307601 120 a b) := hl
  rw [e0] at hl
  refine Eq.trans hl ?_
  have e3 : ¬ nI 120 < (120 : Int32) := by decide
  rw [v_M_copyRow_3_8, if_neg e3]
/-- what copyRoof leaves -/
def CR (σ σ' : St) (a b : Nat) : Prop := Fr cpS σ σ' ∧ (∀ q, gI σ' 2897 0 q = if 1 * b ≤ q ∧ q < 1 * b + 1 then gI σ 2897 0 (1 * a + (q - 1 * b)) else gI σ 2897 0 q) ∧ (∀ q, gI σ' 23385 0 q = if 9 * b ≤ q ∧ q < 9 * b + 9 then gI σ 23385 0 (9 * a + (q - 9 * b)) else gI σ 23385 0 q) ∧ (∀ q, gI σ' 31073 0 q = if 12 * b ≤ q ∧ q < 12 * b + 12 then gI σ 31073 0 (12 * a + (q - 12 * b)) else gI σ 31073 0 q) ∧ (∀ q, gI σ' 36201 0 q = if 14 * b ≤ q ∧ q < 14 * b + 14 then gI σ 36201 0 (14 * a + (q - 14 * b)) else gI σ 36201 0 q) ∧ (∀ q, gI σ' 18289 0 q = if 7 * b ≤ q ∧ q < 7 * b + 7 then gI σ 18289 0 (7 * a + (q - 7 * b)) else gI σ 18289 0 q) ∧ (∀ q, gI σ' 31097 0 q = if 12 * b ≤ q ∧ q < 12 * b + 12 then gI σ 31097 0 (12 * a + (q - 12 * b)) else gI σ 31097 0 q) ∧ (∀ q, gI σ' 51585 0 q = if 20 * b ≤ q ∧ q < 20 * b + 20 then gI σ 51585 0 (20 * a + (q - 20 * b)) else gI σ 51585 0 q) ∧ (∀ q, gI σ' 31113 0 q = if 12 * b ≤ q ∧ q < 12 * b + 12 then gI σ 31113 0 (12 * a + (q - 12 * b)) else gI σ 31113 0 q) ∧ (∀ q, gI σ' 307601 0 q = if 120 * b ≤ q ∧ q < 120 * b + 120 then gI σ 307601 0 (120 * a + (q - 120 * b)) else gI σ 307601 0 q)
theorem s_copyRoof {σ : St} {a b : Nat} (ha : a < 5) (hb : b < 5) (hab : a ≠ b) : ∃ σ', Cc 238 0 [vR 96 0, vI (nI a), vI (nI b)] σ = some (none, σ') ∧ CR σ σ' a b := by
  rw [c_M_copyRoof, s_copyRow_0 ha hb hab, cV_s, s_copyRow_1 ha hb hab, cV_s, s_copyRow_2 ha hb hab, cV_s, s_copyRow_3 ha hb hab, cV_s, s_copyRow_4 ha hb hab, cV_s, s_copyRow_5 ha hb hab, cV_s, s_copyRow_6 ha hb hab, cV_s, s_copyRow_7 ha hb hab, cV_s, s_copyRow_8 ha hb hab, cV_s]
  refine ⟨_, rfl, ?_, fun q => ?_, fun q => ?_, fun q => ?_, fun q => ?_, fun q => ?_, fun q => ?_, fun q => ?_, fun q => ?_, fun q => ?_⟩
  · exact ((((((((Fr.rf.pI (fun _ => rfl)).pI (fun _ => rfl)).pI (fun _ => rfl)).pI (fun _ => rfl)).pI (fun _ => rfl)).pI (fun _ => rfl)).pI (fun _ => rfl)).pI (fun _ => rfl)).pI (fun _ => rfl)
  · rw [cpR_n (by decide), cpR_n (by decide), cpR_n (by decide), cpR_n (by decide), cpR_n (by decide), cpR_n (by decide), cpR_n (by decide), cpR_n (by decide), cpR_s]
  · rw [cpR_n (by decide), cpR_n (by decide), cpR_n (by decide), cpR_n (by decide), cpR_n (by decide), cpR_n (by decide), cpR_n (by decide), cpR_s]
    repeat rw [cpR_n (by decide)]
  · rw [cpR_n (by decide), cpR_n (by decide), cpR_n (by decide), cpR_n (by decide), cpR_n (by decide), cpR_n (by decide), cpR_s]
    repeat rw [cpR_n (by decide)]
  · rw [cpR_n (by decide), cpR_n (by decide), cpR_n (by decide), cpR_n (by decide), cpR_n (by decide), cpR_s]
    repeat rw [cpR_n (by decide)]
  · rw [cpR_n (by decide), cpR_n (by decide), cpR_n (by decide), cpR_n (by decide), cpR_s]
    repeat rw [cpR_n (by decide)]
  · rw [cpR_n (by decide), cpR_n (by decide), cpR_n (by decide), cpR_s]
    repeat rw [cpR_n (by decide)]
  · rw [cpR_n (by decide), cpR_n (by decide), cpR_s]
    repeat rw [cpR_n (by decide)]
  · rw [cpR_n (by decide), cpR_s]
    repeat rw [cpR_n (by decide)]
  · rw [cpR_s]
    repeat rw [cpR_n (by decide)]
