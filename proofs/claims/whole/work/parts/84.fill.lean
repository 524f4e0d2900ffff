/-! THE CLASS: fillRow -/
theorem nf_lt (u d : Nat) : ∀ k v a, nf u d k v a < v + k + 1
  | 0, v, a => by
    show 0 < _
    omega
  | k + 1, v, a => by
    have h1 := nf_lt u d k (v + 1) a
    have h2 := nf_lt u d k (v + 1) (a + 1)
    show cond (Nat.testBit u v) (nf u d k (v + 1) a) (cond (Nat.beq a d) v (nf u d k (v + 1) (a + 1))) < _
    cases Nat.testBit u v
    · cases Nat.beq a d
      · show nf u d k (v + 1) (a + 1) < _
        omega
      · show v < _
        omega
    · show nf u d k (v + 1) a < _
      omega
theorem nf_6 {P : Nat} (hP : P ≤ 6) (u d : Nat) : nf u d P 0 0 ≤ 6 := by
  have := nf_lt u d P 0 0
  omega
theorem tkn_lt {P : Nat} (hP : P ≤ 6) (d : Nat → Nat) : ∀ i, tkn P d i < 2 ^ 7
  | 0 => by
    show 0 < _
    decide
  | i + 1 => by
    show tkn P d i ||| 2 ^ nf (tkn P d i) (d i) P 0 0 < 2 ^ 7
    exact Nat.or_lt_two_pow (tkn_lt hP d i) (Nat.pow_lt_pow_right (by omega) (by have := nf_6 hP (tkn P d i) (d i); omega))
theorem h_nthFree (σ : St) {u P d : Nat} (hu : u < 2 ^ 7) (hP : P ≤ 6) (hd : d < 2 ^ 20) : Cc 201 0 [vI (nI u), vI (nI P), vI (nI d)] σ = some (some (vI (nI (nf u d P 0 0))), σ) := by
  have h10 : ¬ (1 : Int32) = 0 := by decide
  have h00 : (0 : Int32) = 0 := rfl
  have key : ∀ k v a, v + k = P → a ≤ v → Vv 201 0 5 [some (vI (nI u)), some (vI (nI P)), some (vI (nI d)), some (vI (nI a)), some (vI (nI v)), none] [] σ = some (some (vI (nI (nf u d k v a))), σ) := by
    intro k
    induction k with
    | zero =>
      intro v a hv ha
      rw [v_H_nthFree_5, if_neg (nI_nlt (by omega) (by omega))]
      rfl
    | succ k ih =>
      intro v a hv ha
      have en : nf u d (k + 1) v a = cond (Nat.testBit u v) (nf u d k (v + 1) a) (cond (Nat.beq a d) v (nf u d k (v + 1) (a + 1))) := rfl
      rw [v_H_nthFree_5, if_pos (nI_lt (show v < P by omega) (by omega)), bit_ne, bit_n (show u < 2 ^ 31 by omega) (show v < 32 by omega), en]
      simp only [if_neg h10, if_pos h00]
      cases Nat.testBit u v
      · rw [cond_false, cond_false]
        cases hb : Nat.beq a d
        · have hne : a ≠ d := Nat.ne_of_beq_eq_false hb
          rw [if_neg (fun z => hne ((nI_eq (by omega) (by omega)).mp z)), nI_1, nI_1, ih (v + 1) (a + 1) (by omega) (by omega)]
          rfl
        · rw [if_pos (by rw [Nat.eq_of_beq_eq_true hb])]
          rfl
      · rw [cond_true, cond_true, nI_1, ih (v + 1) a (by omega) (by omega), if_pos trivial, if_pos trivial]
  rw [c_H_nthFree]
  exact key P 0 0 (by omega) (by omega)
theorem nI_m1 (k : Nat) : nI (k + 1) - 1 = nI k := pk_sub (b := 1) (a := k + 1) (by omega)
theorem dgt_lt (P : Nat) : ∀ k n i, n < 2 ^ 20 → P ≤ 6 → dgt P k n i < 2 ^ 20
  | 0, n, i, _, _ => by
    show 0 < _
    decide
  | k + 1, n, i, hn, hP => by
    have h1 := dgt_lt P k (n / (P - k)) i (Nat.lt_of_le_of_lt (Nat.div_le_self _ _) hn) hP
    show cond (Nat.beq i k) (n % (P - k)) (dgt P k (n / (P - k)) i) < _
    cases Nat.beq i k
    · exact h1
    · exact Nat.lt_of_le_of_lt (Nat.mod_le _ _) hn
/-! fillRow: rrow -/
def rrowS (t i' _j : Nat) : Bool := Nat.beq t 3297 && Nat.beq i' 0
theorem rrow_13 {P L : Nat} (hP : P ≤ 6) (l2 l3 : Int32) : ∀ (k n : Nat) (σ : St), k ≤ P → n < 2 ^ 20 → ∃ σ' r, Vv 200 0 13 [some (vR 3297 0), some (vI (nI P)), some (vI l2), some (vI l3), some (vI (nI n)), some (vI (nI k - 1)), none] [] σ = Vv 200 0 70 [some (vR 3297 0), some (vI (nI P)), some (vI l2), some (vI l3), some (vI r), some (vI 0), some (vI 0)] [] σ' ∧ Fr rrowS σ σ' ∧ (∀ i, i < k → gI σ' 3297 0 i = nI (dgt P k n i)) ∧ ∀ i, k ≤ i → gI σ' 3297 0 i = gI σ 3297 0 i
  | 0, n, σ, hk, hn => by
    refine ⟨σ, nI n, ?_, Fr.rf, fun i hi => by omega, fun i _ => rfl⟩
    rw [v_H_fillRow_13_0, if_pos (by decide)]
  | k + 1, n, σ, hk, hn => by
    have e1 : nI P - nI k = nI (P - k) := pk_sub (by omega)
    have hd := Nat.div_le_self n (P - k)
    have e3 : nI n / nI (P - k) = nI (n / (P - k)) := pk_div (by omega) (by omega) (by omega)
    have e4 : nI n - nI n / nI (P - k) * nI (P - k) = nI (n % (P - k)) := pk_rem (by omega) (by omega) (by omega)
    obtain ⟨σ', r, c1, f1, a1, b1⟩ := rrow_13 (L := L) hP l2 l3 k (n / (P - k)) (sI σ 3297 0 k (nI (n % (P - k)))) (by omega) (by omega)
    have hF : Fr rrowS σ (sI σ 3297 0 k (nI (n % (P - k)))) := Fr.rf.sI rfl
    have hle : ¬ nI (P - k) ≤ (0 : Int32) := nI_ge (a := 0) (show 0 < P - k by omega) (by omega)
    have ek : nI k + (-1) = nI k - 1 := (Int32.sub_eq_add_neg _ _).symm
    refine ⟨σ', r, ?_, hF.tr f1, fun i hi => ?_, fun i hi => ?_⟩
    · rw [nI_m1, v_H_fillRow_13_0, if_neg (nI_pos (by omega)), e1, if_neg hle, if_neg (nI_ne0 (by omega) (by omega)), ix_nI (by omega) (by omega), if_neg hle, if_neg (nI_ne0 (by omega) (by omega)), e4, e3, ek]
      exact c1
    · show _ = nI (cond (Nat.beq i k) (n % (P - k)) (dgt P k (n / (P - k)) i))
      by_cases hik : i = k
      · subst hik
        rw [b1 i (Nat.le_refl _), gI_sIs, Nat.beq_refl]
        rfl
      · have hb : Nat.beq i k = false := by
          cases hz : Nat.beq i k
          · rfl
          · exact absurd (Nat.eq_of_beq_eq_true hz) hik
        rw [a1 i (by omega), hb]
        rfl
    · rw [b1 i (by omega), gI_sIj (by omega)]
theorem rrow_70 {P L : Nat} (hP : P ≤ 6) (hL : L ≤ 6) (l3 r : Int32) {d : Nat → Nat} (hd : ∀ i, d i < 2 ^ 20) : ∀ (k i : Nat) (σ : St), i + k = L → (∀ j, j < i → gI σ 3297 0 j = nI (vF P d j)) → (∀ j, i ≤ j → j < L → gI σ 3297 0 j = nI (d j)) → ∃ σ', Vv 200 0 70 [some (vR 3297 0), some (vI (nI P)), some (vI (nI L)), some (vI l3), some (vI r), some (vI (nI (tkn P d i))), some (vI (nI i))] [] σ = some (none, σ') ∧ Fr rrowS σ σ' ∧ ∀ j, j < L → gI σ' 3297 0 j = nI (vF P d j)
  | 0, i, σ, hi, h1, h2 => by
    refine ⟨σ, ?_, Fr.rf, fun j hj => h1 j (by omega)⟩
    rw [v_H_fillRow_70_0, if_neg (nI_nlt (by omega) (by omega))]
  | k + 1, i, σ, hi, h1, h2 => by
    have ht := tkn_lt hP d i
    have hv : vF P d i ≤ 6 := nf_6 hP _ _
    have hF : Fr rrowS σ (sI σ 3297 0 i (nI (vF P d i))) := Fr.rf.sI rfl
    obtain ⟨σ', c1, f1, a1⟩ := rrow_70 hP hL l3 r hd k (i + 1) (sI σ 3297 0 i (nI (vF P d i))) (by omega) (fun j hj => by
      by_cases hji : j = i
      · rw [hji, gI_sIs]
      · rw [gI_sIj hji]
        exact h1 j (by omega)) (fun j hj hjL => by
      rw [gI_sIj (by omega)]
      exact h2 j (by omega) hjL)
    refine ⟨σ', ?_, hF.tr f1, a1⟩
    have eo : nI (tkn P d i) ||| ((1 : Int32) <<< (nI (vF P d i) &&& 31)) = nI (tkn P d (i + 1)) := by
      rw [shl_1 _ (by omega), nI_or]
      rfl
    rw [v_H_fillRow_70_0, if_pos (nI_lt (by omega) (by omega)), if_pos (show nI i < Int32.ofNat 6 from nI_lt (b := 6) (by omega) (by omega)), ix_nI (by omega) (by omega), h2 i (Nat.le_refl _) (by omega), h_nthFree σ ht hP (hd i), cI_s, ix_nI (by omega) (by omega), ix_nI (by omega) (by omega), gI_sIs, nI_1]
    rw [show nf (tkn P d i) (d i) P 0 0 = vF P d i from rfl, eo]
    exact c1
theorem rrow_fill (σ : St) {P L n : Nat} (hP : P ≤ 6) (hL : L ≤ P) (hn : n < 2 ^ 20) : ∃ σ', Cc 200 0 [vR 3297 0, vI (nI P), vI (nI L), vI (nI n)] σ = some (none, σ') ∧ Fr rrowS σ σ' ∧ ∀ j, j < L → gI σ' 3297 0 j = nI (vF P (dgt P L n) j) := by
  obtain ⟨σ1, r, c1, f1, a1, b1⟩ := rrow_13 (L := L) hP (nI L) (nI n) L n σ hL hn
  obtain ⟨σ2, c2, f2, a2⟩ := rrow_70 (L := L) hP (by omega) (nI n) r (d := dgt P L n) (fun i => dgt_lt P L n i hn hP) L 0 σ1 (by omega) (fun j hj => by omega) (fun j _ hj => a1 j hj)
  refine ⟨σ2, ?_, f1.tr f2, a2⟩
  have e6 : (if Int32.ofNat 6 < nI L then Int32.ofNat 6 else nI L) = nI L := if_neg (show ¬ Int32.ofNat 6 < nI L from nI_nlt (b := L) (a := 6) (by omega) (by omega))
  rw [c_H_fillRow_0, e6]
  exact c1.trans c2
/-! fillRow: srow -/
def srowS (t i' _j : Nat) : Bool := Nat.beq t 3329 && Nat.beq i' 0
theorem srow_13 {P L : Nat} (hP : P ≤ 6) (l2 l3 : Int32) : ∀ (k n : Nat) (σ : St), k ≤ P → n < 2 ^ 20 → ∃ σ' r, Vv 200 0 13 [some (vR 3329 0), some (vI (nI P)), some (vI l2), some (vI l3), some (vI (nI n)), some (vI (nI k - 1)), none] [] σ = Vv 200 0 70 [some (vR 3329 0), some (vI (nI P)), some (vI l2), some (vI l3), some (vI r), some (vI 0), some (vI 0)] [] σ' ∧ Fr srowS σ σ' ∧ (∀ i, i < k → gI σ' 3329 0 i = nI (dgt P k n i)) ∧ ∀ i, k ≤ i → gI σ' 3329 0 i = gI σ 3329 0 i
  | 0, n, σ, hk, hn => by
    refine ⟨σ, nI n, ?_, Fr.rf, fun i hi => by omega, fun i _ => rfl⟩
    rw [v_H_fillRow_13_1, if_pos (by decide)]
  | k + 1, n, σ, hk, hn => by
    have e1 : nI P - nI k = nI (P - k) := pk_sub (by omega)
    have hd := Nat.div_le_self n (P - k)
    have e3 : nI n / nI (P - k) = nI (n / (P - k)) := pk_div (by omega) (by omega) (by omega)
    have e4 : nI n - nI n / nI (P - k) * nI (P - k) = nI (n % (P - k)) := pk_rem (by omega) (by omega) (by omega)
    obtain ⟨σ', r, c1, f1, a1, b1⟩ := srow_13 (L := L) hP l2 l3 k (n / (P - k)) (sI σ 3329 0 k (nI (n % (P - k)))) (by omega) (by omega)
    have hF : Fr srowS σ (sI σ 3329 0 k (nI (n % (P - k)))) := Fr.rf.sI rfl
    have hle : ¬ nI (P - k) ≤ (0 : Int32) := nI_ge (a := 0) (show 0 < P - k by omega) (by omega)
    have ek : nI k + (-1) = nI k - 1 := (Int32.sub_eq_add_neg _ _).symm
    refine ⟨σ', r, ?_, hF.tr f1, fun i hi => ?_, fun i hi => ?_⟩
    · rw [nI_m1, v_H_fillRow_13_1, if_neg (nI_pos (by omega)), e1, if_neg hle, if_neg (nI_ne0 (by omega) (by omega)), ix_nI (by omega) (by omega), if_neg hle, if_neg (nI_ne0 (by omega) (by omega)), e4, e3, ek]
      exact c1
    · show _ = nI (cond (Nat.beq i k) (n % (P - k)) (dgt P k (n / (P - k)) i))
      by_cases hik : i = k
      · subst hik
        rw [b1 i (Nat.le_refl _), gI_sIs, Nat.beq_refl]
        rfl
      · have hb : Nat.beq i k = false := by
          cases hz : Nat.beq i k
          · rfl
          · exact absurd (Nat.eq_of_beq_eq_true hz) hik
        rw [a1 i (by omega), hb]
        rfl
    · rw [b1 i (by omega), gI_sIj (by omega)]
theorem srow_70 {P L : Nat} (hP : P ≤ 6) (hL : L ≤ 6) (l3 r : Int32) {d : Nat → Nat} (hd : ∀ i, d i < 2 ^ 20) : ∀ (k i : Nat) (σ : St), i + k = L → (∀ j, j < i → gI σ 3329 0 j = nI (vF P d j)) → (∀ j, i ≤ j → j < L → gI σ 3329 0 j = nI (d j)) → ∃ σ', Vv 200 0 70 [some (vR 3329 0), some (vI (nI P)), some (vI (nI L)), some (vI l3), some (vI r), some (vI (nI (tkn P d i))), some (vI (nI i))] [] σ = some (none, σ') ∧ Fr srowS σ σ' ∧ ∀ j, j < L → gI σ' 3329 0 j = nI (vF P d j)
  | 0, i, σ, hi, h1, h2 => by
    refine ⟨σ, ?_, Fr.rf, fun j hj => h1 j (by omega)⟩
    rw [v_H_fillRow_70_1, if_neg (nI_nlt (by omega) (by omega))]
  | k + 1, i, σ, hi, h1, h2 => by
    have ht := tkn_lt hP d i
    have hv : vF P d i ≤ 6 := nf_6 hP _ _
    have hF : Fr srowS σ (sI σ 3329 0 i (nI (vF P d i))) := Fr.rf.sI rfl
    obtain ⟨σ', c1, f1, a1⟩ := srow_70 hP hL l3 r hd k (i + 1) (sI σ 3329 0 i (nI (vF P d i))) (by omega) (fun j hj => by
      by_cases hji : j = i
      · rw [hji, gI_sIs]
      · rw [gI_sIj hji]
        exact h1 j (by omega)) (fun j hj hjL => by
      rw [gI_sIj (by omega)]
      exact h2 j (by omega) hjL)
    refine ⟨σ', ?_, hF.tr f1, a1⟩
    have eo : nI (tkn P d i) ||| ((1 : Int32) <<< (nI (vF P d i) &&& 31)) = nI (tkn P d (i + 1)) := by
      rw [shl_1 _ (by omega), nI_or]
      rfl
    rw [v_H_fillRow_70_1, if_pos (nI_lt (by omega) (by omega)), if_pos (show nI i < Int32.ofNat 6 from nI_lt (b := 6) (by omega) (by omega)), ix_nI (by omega) (by omega), h2 i (Nat.le_refl _) (by omega), h_nthFree σ ht hP (hd i), cI_s, ix_nI (by omega) (by omega), ix_nI (by omega) (by omega), gI_sIs, nI_1]
    rw [show nf (tkn P d i) (d i) P 0 0 = vF P d i from rfl, eo]
    exact c1
theorem srow_fill (σ : St) {P L n : Nat} (hP : P ≤ 6) (hL : L ≤ P) (hn : n < 2 ^ 20) : ∃ σ', Cc 200 0 [vR 3329 0, vI (nI P), vI (nI L), vI (nI n)] σ = some (none, σ') ∧ Fr srowS σ σ' ∧ ∀ j, j < L → gI σ' 3329 0 j = nI (vF P (dgt P L n) j) := by
  obtain ⟨σ1, r, c1, f1, a1, b1⟩ := srow_13 (L := L) hP (nI L) (nI n) L n σ hL hn
  obtain ⟨σ2, c2, f2, a2⟩ := srow_70 (L := L) hP (by omega) (nI n) r (d := dgt P L n) (fun i => dgt_lt P L n i hn hP) L 0 σ1 (by omega) (fun j hj => by omega) (fun j _ hj => a1 j hj)
  refine ⟨σ2, ?_, f1.tr f2, a2⟩
  have e6 : (if Int32.ofNat 6 < nI L then Int32.ofNat 6 else nI L) = nI L := if_neg (show ¬ Int32.ofNat 6 < nI L from nI_nlt (b := L) (a := 6) (by omega) (by omega))
  rw [c_H_fillRow_1, e6]
  exact c1.trans c2
