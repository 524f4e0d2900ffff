/-! PURE THINGS: sums, sets as bits, first ones; how the machine has them -/
/-- the set of those below n of which P says true, as bits -/
def bn (P : Nat → Bool) : Nat → Nat
  | 0 => 0
  | n + 1 => bn P n + cond (P n) (2 ^ n) 0
def sm (f : Nat → Nat) : Nat → Nat
  | 0 => 0
  | n + 1 => sm f n + f n
/-- how many below n -/
def cn (P : Nat → Bool) (n : Nat) : Nat := sm (fun k => cond (P k) 1 0) n
/-- the first from k on, of so many; behind all without -/
def fr (P : Nat → Bool) : Nat → Nat → Nat
  | 0, k => k
  | n + 1, k => cond (P k) k (fr P n (k + 1))
theorem bn_lt (P : Nat → Bool) : ∀ n, bn P n < 2 ^ n
  | 0 => by simp [bn]
  | n + 1 => by
    have := bn_lt P n
    show bn P n + cond (P n) (2 ^ n) 0 < 2 ^ (n + 1)
    rw [Nat.pow_succ]
    cases P n
    · show bn P n + 0 < _
      omega
    · show bn P n + 2 ^ n < _
      omega
theorem bn_le {P : Nat → Bool} {n N : Nat} (h : n ≤ N) : bn P n < 2 ^ N := Nat.lt_of_lt_of_le (bn_lt P n) (Nat.pow_le_pow_right (by omega) h)
theorem bn_tb (P : Nat → Bool) (k : Nat) : ∀ n, (bn P n).testBit k = (decide (k < n) && P k)
  | 0 => by simp [bn]
  | n + 1 => by
    have ih := bn_tb P k n
    show (bn P n + cond (P n) (2 ^ n) 0).testBit k = _
    rcases Nat.lt_trichotomy k n with h | h | h
    · have e1 : decide (k < n + 1) = true := decide_eq_true (by omega)
      have e2 : decide (k < n) = true := decide_eq_true h
      rw [e1]
      rw [e2] at ih
      cases P n
      · exact ih
      · show (bn P n + 2 ^ n).testBit k = _
        rw [Nat.add_comm, Nat.testBit_two_pow_add_gt h]
        exact ih
    · subst h
      have e1 : decide (k < k + 1) = true := decide_eq_true (by omega)
      have e3 : (bn P k).testBit k = false := Nat.testBit_lt_two_pow (bn_lt P k)
      rw [e1]
      cases hq : P k
      · show (bn P k + 0).testBit k = _
        rw [Nat.add_zero, e3]; rfl
      · show (bn P k + 2 ^ k).testBit k = _
        rw [Nat.add_comm, Nat.testBit_two_pow_add_eq, e3]; rfl
    · have e1 : decide (k < n + 1) = false := decide_eq_false (by omega)
      rw [e1]
      have := bn_lt P (n + 1)
      have h2 : bn P n + cond (P n) (2 ^ n) 0 < 2 ^ k := Nat.lt_of_lt_of_le this (Nat.pow_le_pow_right (by omega) h)
      rw [Nat.testBit_lt_two_pow h2]; rfl
theorem bn_congr {P Q : Nat → Bool} : ∀ {n : Nat}, (∀ k, k < n → P k = Q k) → bn P n = bn Q n
  | 0, _ => rfl
  | n + 1, h => by
    show bn P n + cond (P n) (2 ^ n) 0 = bn Q n + cond (Q n) (2 ^ n) 0
    rw [bn_congr (fun k hk => h k (by omega)), h n (by omega)]
theorem sm_congr {f g : Nat → Nat} : ∀ {n : Nat}, (∀ k, k < n → f k = g k) → sm f n = sm g n
  | 0, _ => rfl
  | n + 1, h => by
    show sm f n + f n = sm g n + g n
    rw [sm_congr (fun k hk => h k (by omega)), h n (by omega)]
theorem sm_le {f : Nat → Nat} {c : Nat} : ∀ {n : Nat}, (∀ k, k < n → f k ≤ c) → sm f n ≤ c * n
  | 0, _ => Nat.zero_le _
  | n + 1, h => by
    show sm f n + f n ≤ c * (n + 1)
    have h1 := sm_le (f := f) (c := c) (n := n) (fun k hk => h k (by omega))
    have h2 := h n (by omega)
    rw [Nat.mul_succ]
    omega
theorem cn_le (P : Nat → Bool) (n : Nat) : cn P n ≤ n := by
  have := sm_le (f := fun k => cond (P k) 1 0) (c := 1) (n := n) (fun k _ => by cases P k <;> decide)
  rw [Nat.one_mul] at this
  exact this
theorem cn_congr {P Q : Nat → Bool} {n : Nat} (h : ∀ k, k < n → P k = Q k) : cn P n = cn Q n := sm_congr (fun k hk => by rw [h k hk])
theorem fr_ge (P : Nat → Bool) : ∀ n k, k ≤ fr P n k ∧ fr P n k ≤ k + n
  | 0, k => ⟨Nat.le_refl k, Nat.le_refl k⟩
  | n + 1, k => by
    have ih := fr_ge P n (k + 1)
    show k ≤ cond (P k) k (fr P n (k + 1)) ∧ cond (P k) k (fr P n (k + 1)) ≤ k + (n + 1)
    cases P k
    · show k ≤ fr P n (k + 1) ∧ fr P n (k + 1) ≤ k + (n + 1)
      omega
    · show k ≤ k ∧ k ≤ k + (n + 1)
      omega
theorem fr_at (P : Nat → Bool) : ∀ n k, fr P n k < k + n → P (fr P n k) = true
  | 0, k, h => absurd h (by show ¬ k < k + 0; omega)
  | n + 1, k, h => by
    show P (cond (P k) k (fr P n (k + 1))) = true
    have h : cond (P k) k (fr P n (k + 1)) < k + (n + 1) := h
    cases hq : P k
    · rw [hq] at h
      exact fr_at P n (k + 1) (by have h : fr P n (k + 1) < k + (n + 1) := h; omega)
    · exact hq
theorem fr_not (P : Nat → Bool) : ∀ n k j, k ≤ j → j < fr P n k → P j = false
  | 0, k, j, h1, h2 => absurd h2 (by show ¬ j < k; omega)
  | n + 1, k, j, h1, h2 => by
    have h2 : j < cond (P k) k (fr P n (k + 1)) := h2
    cases hq : P k
    · rw [hq] at h2
      have h2 : j < fr P n (k + 1) := h2
      by_cases hj : j = k
      · rw [hj]; exact hq
      · exact fr_not P n (k + 1) j (by omega) h2
    · rw [hq] at h2
      have h2 : j < k := h2
      omega
theorem fr_congr {P Q : Nat → Bool} : ∀ {n k : Nat}, (∀ j, k ≤ j → j < k + n → P j = Q j) → fr P n k = fr Q n k
  | 0, _, _ => rfl
  | n + 1, k, h => by
    show cond (P k) k (fr P n (k + 1)) = cond (Q k) k (fr Q n (k + 1))
    rw [h k (by omega) (by omega), fr_congr (fun j h1 h2 => h j (by omega) (by omega))]
/-- some below n -/
def ex (P : Nat → Bool) (n : Nat) : Bool := decide (fr P n 0 < n)
theorem ex_iff {P : Nat → Bool} {n : Nat} : ex P n = true ↔ ∃ k, k < n ∧ P k = true := by
  unfold ex
  constructor
  · intro h
    have h := of_decide_eq_true h
    exact ⟨_, h, fr_at P n 0 (by omega)⟩
  · rintro ⟨k, h1, h2⟩
    refine decide_eq_true ?_
    rcases Nat.lt_or_ge (fr P n 0) n with h | h
    · exact h
    · have := fr_not P n 0 k (by omega) (by omega)
      rw [h2] at this
      cases this
theorem ex_congr {P Q : Nat → Bool} {n : Nat} (h : ∀ k, k < n → P k = Q k) : ex P n = ex Q n := by
  unfold ex
  rw [fr_congr (fun j _ h2 => h j (by omega))]
theorem ex_no {P : Nat → Bool} {n : Nat} : ex P n = false ↔ ∀ k, k < n → P k = false := by
  constructor
  · intro h k hk
    cases hq : P k
    · rfl
    · rw [ex_iff.mpr ⟨k, hk, hq⟩] at h
      cases h
  · intro h
    cases hq : ex P n
    · rfl
    · obtain ⟨k, h1, h2⟩ := ex_iff.mp hq
      rw [h k h1] at h2
      cases h2
/-! loops -/
theorem lpU {β : Type} {V : Nat → β} {n : Nat} (h : ∀ j, j < n → V j = V (j + 1)) : V 0 = V n := by
  induction n with
  | zero => rfl
  | succ n ih => rw [ih (fun j hj => h j (by omega)), h n (by omega)]
/-- a loop from k on -/
theorem lpK {β : Type} {V : Nat → β} {n : Nat} (k : Nat) (hk : k ≤ n) (h : ∀ j, k ≤ j → j < n → V j = V (j + 1)) : V k = V n := by
  have := lpU (V := fun j => V (k + j)) (n := n - k) (fun j hj => h (k + j) (by omega) (by omega))
  rw [show V n = V (k + (n - k)) by rw [show k + (n - k) = n by omega]]
  exact this
/-- a search -/
theorem lpF {β : Type} {V : Nat → β} {P : Nat → Bool} {r : Nat → β} : ∀ (n k : Nat), (∀ j, k ≤ j → j < k + n → V j = cond (P j) (r j) (V (j + 1))) → V k = cond (decide (fr P n k < k + n)) (r (fr P n k)) (V (k + n))
  | 0, k, _ => by
    have e1 : decide (fr P 0 k < k + 0) = false := decide_eq_false (by show ¬ k < k + 0; omega)
    rw [e1]; rfl
  | n + 1, k, h => by
    have ih := lpF n (k + 1) (fun j h1 h2 => h j (by omega) (by omega))
    rw [h k (by omega) (by omega)]
    cases hq : P k
    · have e1 : fr P (n + 1) k = fr P n (k + 1) := by
        show cond (P k) k (fr P n (k + 1)) = _
        rw [hq]; rfl
      rw [e1, show k + (n + 1) = k + 1 + n by omega]
      exact ih
    · have e1 : fr P (n + 1) k = k := by
        show cond (P k) k (fr P n (k + 1)) = _
        rw [hq]; rfl
      rw [e1, decide_eq_true (show k < k + (n + 1) by omega)]
      rfl
theorem lpF0 {β : Type} {V : Nat → β} {P : Nat → Bool} {r : Nat → β} (n : Nat) (h : ∀ j, j < n → V j = cond (P j) (r j) (V (j + 1))) : V 0 = cond (ex P n) (r (fr P n 0)) (V n) := by
  have := lpF (V := V) (P := P) (r := r) n 0 (fun j _ h2 => h j (by omega))
  rw [Nat.zero_add] at this
  exact this
/-! numbers of the machine -/
theorem m31 {k : Nat} (h : k < 32) : nI k &&& 31 = nI k := by rw [pk_andN (by omega) 5 rfl, Nat.mod_eq_of_lt h]
theorem smod32 : ∀ k, k < 32 → ((nI k).toBitVec.smod 32).toNat = k := by decide +kernel
theorem shr_n {x k : Nat} (hx : x < 2 ^ 31) (hk : k < 32) : nI x >>> (nI k &&& 31) = nI (x / 2 ^ k) := by
  rw [m31 hk]
  exact pk_shrN hx _ k (smod32 k hk)
theorem shl_1 : ∀ k, k < 31 → (1 : Int32) <<< (nI k &&& 31) = nI (2 ^ k) := by decide +kernel
theorem and1 {x : Nat} (hx : x < 2 ^ 31) : nI x &&& 1 = nI (x % 2) := pk_andN (by omega) 1 rfl
theorem nI_e1 {x : Nat} (hx : x < 2 ^ 31) : (nI x = 1) = (x = 1) := propext (nI_eq hx (b := 1) (by decide))
theorem nI_e0 {x : Nat} (hx : x < 2 ^ 31) : (nI x = 0) = (x = 0) := propext (nI_eq hx (b := 0) (by decide))
theorem bit_n {x k : Nat} (hx : x < 2 ^ 31) (hk : k < 32) : bit (nI x) (nI k) = x.testBit k := by
  have h1 : x / 2 ^ k < 2 ^ 31 := Nat.lt_of_le_of_lt (Nat.div_le_self _ _) hx
  unfold bit
  rw [shr_n hx hk, and1 h1, Nat.testBit_eq_decide_div_mod_eq]
  simp only [nI_e1 (show x / 2 ^ k % 2 < 2 ^ 31 by omega)]
theorem bit_bn {P : Nat → Bool} {n k : Nat} (hn : n ≤ 31) (hk : k < 32) : bit (nI (bn P n)) (nI k) = (decide (k < n) && P k) := by
  rw [bit_n (bn_le hn) hk, bn_tb]
theorem bit_in {P : Nat → Bool} {n k : Nat} (hn : n ≤ 31) (hk : k < n) : bit (nI (bn P n)) (nI k) = P k := by
  rw [bit_bn hn (by omega), decide_eq_true hk]; rfl
theorem nI_or (a b : Nat) : nI a ||| nI b = nI (a ||| b) := by
  apply Int32.toBitVec_inj.mp
  show BitVec.ofNat 32 a ||| BitVec.ofNat 32 b = BitVec.ofNat 32 (a ||| b)
  rw [BitVec.ofNat_or]
theorem nI_and (a b : Nat) : nI a &&& nI b = nI (a &&& b) := by
  apply Int32.toBitVec_inj.mp
  show BitVec.ofNat 32 a &&& BitVec.ofNat 32 b = BitVec.ofNat 32 (a &&& b)
  rw [BitVec.ofNat_and]
theorem tb_ext {a b : Nat} (h : ∀ k, a.testBit k = b.testBit k) : a = b := Nat.eq_of_testBit_eq h
theorem bn_or (P Q : Nat → Bool) (n : Nat) : bn P n ||| bn Q n = bn (fun k => P k || Q k) n := by
  apply tb_ext
  intro k
  rw [Nat.testBit_or, bn_tb, bn_tb, bn_tb]
  cases decide (k < n) <;> rfl
theorem bn_and (P Q : Nat → Bool) (n : Nat) : bn P n &&& bn Q n = bn (fun k => P k && Q k) n := by
  apply tb_ext
  intro k
  rw [Nat.testBit_and, bn_tb, bn_tb, bn_tb]
  cases decide (k < n) <;> cases P k <;> cases Q k <;> rfl
/-- a set and what another one has not -/
theorem bn_anot {P Q : Nat → Bool} {n : Nat} : nI (bn P n) &&& (nI (bn Q n) ^^^ (-1)) = nI (bn (fun k => P k && !Q k) n) := by
  apply Int32.toBitVec_inj.mp
  show BitVec.ofNat 32 (bn P n) &&& (BitVec.ofNat 32 (bn Q n) ^^^ (-1 : BitVec 32)) = BitVec.ofNat 32 _
  apply BitVec.eq_of_getLsbD_eq
  intro i hi
  rw [BitVec.getLsbD_and, BitVec.getLsbD_xor, BitVec.getLsbD_ofNat, BitVec.getLsbD_ofNat, BitVec.getLsbD_ofNat, bn_tb, bn_tb, bn_tb]
  have e1 : (-1 : BitVec 32).getLsbD i = true := by
    have : ∀ i, i < 32 → (-1 : BitVec 32).getLsbD i = true := by decide +kernel
    exact this i hi
  rw [e1, decide_eq_true hi]
  cases decide (i < n) <;> cases P i <;> cases Q i <;> rfl
/-- one more -/
theorem bn_or1 {P : Nat → Bool} {n : Nat} (hn : n < 31) (h : P n = true) : nI (bn P n) ||| ((1 : Int32) <<< (nI n &&& 31)) = nI (bn P (n + 1)) := by
  rw [shl_1 n hn, nI_or]
  congr 1
  apply tb_ext
  intro k
  rw [Nat.testBit_or, bn_tb, bn_tb, Nat.testBit_two_pow]
  by_cases hk : k = n
  · subst hk
    have e1 : decide (k < k + 1) = true := decide_eq_true (by omega)
    simp [h]
  · have e1 : decide (n = k) = false := decide_eq_false (fun z => hk z.symm)
    rw [e1, Bool.or_false]
    congr 1
    exact decide_eq_decide.mpr (by omega)
theorem bn_or0 {P : Nat → Bool} {n : Nat} (h : P n = false) : bn P n = bn P (n + 1) := by
  show _ = bn P n + cond (P n) (2 ^ n) 0
  rw [h]; rfl
theorem bn_all (n : Nat) : bn (fun _ => true) n = 2 ^ n - 1 := by
  apply tb_ext
  intro k
  rw [bn_tb, Nat.testBit_two_pow_sub_one]
  simp
theorem all_n {n : Nat} (hn : n < 31) : ((1 : Int32) <<< (nI n &&& 31)) - 1 = nI (bn (fun _ => true) n) := by
  have h2 : ∀ n, n < 31 → ((1 : Int32) <<< (nI n &&& 31)) - 1 = nI (2 ^ n - 1) := by decide +kernel
  rw [h2 n hn, bn_all]
theorem bn_0 {P : Nat → Bool} {n : Nat} : bn P n = 0 ↔ ∀ k, k < n → P k = false := by
  constructor
  · intro h k hk
    have := bn_tb P k n
    rw [h, Nat.zero_testBit, decide_eq_true hk] at this
    exact this.symm
  · intro h
    rw [bn_congr (Q := fun _ => false) h]
    clear h
    induction n with
    | zero => rfl
    | succ n ih =>
      show bn (fun _ => false) n + 0 = 0
      rw [ih]
/-- any number below 2^n is a set -/
theorem bn_of {x n : Nat} (h : x < 2 ^ n) : x = bn x.testBit n := by
  apply tb_ext
  intro k
  rw [bn_tb]
  by_cases hk : k < n
  · rw [decide_eq_true hk]; rfl
  · rw [decide_eq_false hk]
    exact Nat.testBit_lt_two_pow (Nat.lt_of_lt_of_le h (Nat.pow_le_pow_right (by omega) (by omega)))
/-- the bit test of the class -/
theorem bit_ne (x k : Int32) {β : Type} (a b : β) : (if (x >>> (k &&& 31)) &&& 1 = 0 then a else b) = cond (bit x k) b a := by
  unfold bit
  have h : (x >>> (k &&& 31)) &&& 1 = nI 0 ∨ (x >>> (k &&& 31)) &&& 1 = nI 1 := by
    obtain ⟨j, h1, h2⟩ := pk_andE (x >>> (k &&& 31)) (m := 1) 1 rfl
    have : j = 0 ∨ j = 1 := by omega
    rcases this with rfl | rfl
    · exact Or.inl h2
    · exact Or.inr h2
  rcases h with h | h
  · rw [h]; rfl
  · rw [h]; rfl
