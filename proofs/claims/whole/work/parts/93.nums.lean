/-! SHIFTS: numbers and codes of rows -/
def low (v t : Nat) : Nat := (2 ^ v - 1) - ((2 ^ v - 1) &&& t)
theorem low_d : (List.range 6).all (fun v => (List.range 64).all (fun t => decide ((((1 : Int32) <<< (nI v &&& 31)) - (1 : Int32)) &&& (nI t ^^^ (-1 : Int32)) = nI (low v t)) && Nat.ble (low v t) 63)) = true := by decide +kernel
theorem low_e {v t : Nat} (hv : v < 6) (ht : t < 64) : (((1 : Int32) <<< (nI v &&& 31)) - (1 : Int32)) &&& (nI t ^^^ (-1 : Int32)) = nI (low v t) ∧ low v t < 64 := by
  have h := List.all_eq_true.mp (List.all_eq_true.mp low_d v (List.mem_range.mpr hv)) t (List.mem_range.mpr ht)
  rw [Bool.and_eq_true] at h
  exact ⟨of_decide_eq_true h.1, by have := Nat.le_of_ble_eq_true h.2; omega⟩
def nmt (f : Nat → Nat) : Nat → Nat
  | 0 => 0
  | i + 1 => nmt f i ||| 2 ^ f i
/-- the number of a row -/
def nmr (P : Nat) (f : Nat → Nat) : Nat → Nat
  | 0 => 0
  | i + 1 => nmr P f i * (P - i) + pc (low (f i) (nmt f i))
theorem nmt_lt {f : Nat → Nat} : ∀ {n : Nat}, (∀ i, i < n → f i < 6) → nmt f n < 64
  | 0, _ => by
    show 0 < 64
    decide
  | n + 1, h => by
    show nmt f n ||| 2 ^ f n < 2 ^ 6
    exact Nat.or_lt_two_pow (nmt_lt (fun i hi => h i (by omega))) (Nat.pow_lt_pow_right (by omega) (h n (by omega)))
theorem nmr_n : ∀ P, P < 7 → ∀ L, L < P + 1 → (rws P L 0).map (fun r => nmr P (fun i => r.getD i 0) L) = List.range (hmr P L) := by decide +kernel
theorem nmt_c {f g : Nat → Nat} : ∀ {n : Nat}, (∀ i, i < n → f i = g i) → nmt f n = nmt g n
  | 0, _ => rfl
  | n + 1, h => by
    show nmt f n ||| 2 ^ f n = nmt g n ||| 2 ^ g n
    rw [nmt_c (fun i hi => h i (by omega)), h n (by omega)]
theorem nmr_c {P : Nat} {f g : Nat → Nat} : ∀ {n : Nat}, (∀ i, i < n → f i = g i) → nmr P f n = nmr P g n
  | 0, _ => rfl
  | n + 1, h => by
    show nmr P f n * (P - n) + pc (low (f n) (nmt f n)) = nmr P g n * (P - n) + pc (low (g n) (nmt g n))
    rw [nmr_c (fun i hi => h i (by omega)), nmt_c (fun i hi => h i (by omega)), h n (by omega)]
/-- the code of a row -/
def cde (f : Nat → Nat) : Nat → Nat
  | 0 => 0
  | i + 1 => 6 * cde f i + f i
theorem cde_lt {f : Nat → Nat} : ∀ {n : Nat}, (∀ i, i < n → f i < 6) → cde f n < 6 ^ n
  | 0, _ => by
    show 0 < 1
    decide
  | n + 1, h => by
    have h1 := cde_lt (f := f) (n := n) (fun i hi => h i (by omega))
    have h2 := h n (by omega)
    show 6 * cde f n + f n < 6 ^ (n + 1)
    rw [Nat.pow_succ]
    omega
theorem cde_inj {f g : Nat → Nat} : ∀ {n : Nat}, (∀ i, i < n → f i < 6 ∧ g i < 6) → cde f n = cde g n → ∀ i, i < n → f i = g i
  | 0, _, _, i, hi => by omega
  | n + 1, h, e, i, hi => by
    have h1 := h n (by omega)
    have e : 6 * cde f n + f n = 6 * cde g n + g n := e
    by_cases hin : i = n
    · subst hin
      omega
    · exact cde_inj (n := n) (fun i hi => h i (by omega)) (by omega) i (by omega)
theorem s_codeOf {σ : St} {R : RF} (h : H0 σ R) {f : Nat → Nat} (hr : ∀ i, i < nL R → gI σ 3529 0 i = nI (f i)) : Cc 314 0 [vR 96 0, vR 3529 0] σ = some (some (vI (nI (cde f (nL R)))), σ) := by
  have hbb := h.b
  rw [c_M_codeOf]
  refine (lpU (V := fun j => Vv 314 0 4 [some (vR 96 0), some (vR 3529 0), some (vI (nI (cde f j))), some (vI (nI j))] [] σ) (n := nL R) (fun j hj => ?_)).trans ?_
  · show Vv _ _ _ _ _ _ = Vv _ _ _ _ _ _
    rw [v_M_codeOf_4, cI_L h, if_pos (nI_lt hj (by omega)), ix_nI (by omega) (by omega), hr j hj, show (6 : Int32) * nI (cde f j) = nI (6 * cde f j) from pk_mul 6 _, nI_add, nI_1]
    rfl
  · show Vv _ _ _ _ _ _ = _
    rw [v_M_codeOf_4, cI_L h, if_neg (nI_nlt (Nat.le_refl _) (by omega))]
theorem k_numOf {σ : St} {P L : Nat} (hP : P ≤ 6) (hL : L ≤ P) {f : Nat → Nat} (hr : ∀ i, i < L → gI σ 3329 0 i = nI (f i)) (hf : ∀ i, i < L → f i < 6) : Cc 202 0 [vR 3329 0, vI (nI P), vI (nI L)] σ = some (some (vI (nI (nmr P f L))), σ) := by
  rw [c_H_numberOfRow]
  refine (lpU (V := fun j => Vv 202 0 8 [some (vR 3329 0), some (vI (nI P)), some (vI (nI L)), some (vI (nI (nmr P f j))), some (vI (nI (nmt f j))), some (vI (nI j)), none] [] σ) (n := L) (fun j hj => ?_)).trans ?_
  · show Vv _ _ _ _ _ _ = Vv _ _ _ _ _ _
    have ht := nmt_lt (f := f) (n := j) (fun i hi => hf i (by omega))
    have hfj := hf j hj
    obtain ⟨e1, e2⟩ := low_e hfj ht
    rw [v_H_numberOfRow_8, if_pos (nI_lt hj (by omega)), if_pos (show nI j < Int32.ofNat 6 from nI_lt (b := 6) (by omega) (by omega)), ix_nI (by omega) (by omega), hr j hj, e1, k_bitCount σ (by omega), cI_s, ix_nI (by omega) (by omega), hr j hj, pk_sub (show j ≤ P by omega), pk_mul, nI_add, shl_1 _ (by omega), nI_or, nI_1]
    rfl
  · show Vv _ _ _ _ _ _ = _
    rw [v_H_numberOfRow_8, if_neg (nI_nlt (Nat.le_refl _) (by omega))]
