/-! THE REFERENCE: sizes, products, lowest terms, powers -/
theorem lN_i63 {n : Nat} (h : n < 2 ^ 63) : (lN n).toInt = (n : Int) := Int64.toInt_ofNat_of_lt h
theorem lN_e63 {a b : Nat} (ha : a < 2 ^ 63) (hb : b < 2 ^ 63) : lN a = lN b ↔ a = b := by
  constructor
  · intro h
    have := congrArg Int64.toInt h
    rw [lN_i63 ha, lN_i63 hb] at this
    omega
  · intro h; rw [h]
theorem lN_d63 {a b : Nat} (ha : a < 2 ^ 63) (hb : b < 2 ^ 63) (h0 : 0 < b) : lN a / lN b = lN (a / b) := by
  apply Int64.toInt_inj.mp
  have h1 : a / b ≤ a := Nat.div_le_self a b
  rw [Int64.toInt_div, lN_i63 ha, lN_i63 hb, lN_i63 (by omega), ← Int.ofNat_tdiv]
  generalize a / b = q at h1
  exact Int.bmod_eq_of_le (by omega) (by omega)
theorem lN_r63 {a b : Nat} (ha : a < 2 ^ 63) (hb : b < 2 ^ 63) (h0 : 0 < b) : lN a - lN a / lN b * lN b = lN (a % b) := by
  have h1 : a / b * b ≤ a := Nat.div_mul_le_self a b
  rw [lN_d63 ha hb h0, lN_mul, lN_sub h1]
  congr 1
  have := Nat.div_add_mod a b
  rw [Nat.mul_comm] at this
  omega
theorem lN_0 : lN 0 = (0 : Int64) := rfl
theorem lN_n0 {a : Nat} (ha : a < 2 ^ 63) (h : 0 < a) : ¬ lN a = (0 : Int64) := fun z => by
  have := (lN_e63 ha (b := 0) (by omega)).mp z
  omega
/-- the greatest common divisor: so many steps at most -/
theorem s_common (σ : St) : ∀ (k r a b : Nat), 2 * k ≤ r → b < 2 ^ k → k ≤ 62 → a < 2 ^ 63 → Cc 327 (r + 1) [vL (lN a), vL (lN b)] σ = some (some (vL (lN (Nat.gcd a b))), σ)
  | 0, r, a, b, hr, hb, _, ha => by
    have hb : b = 0 := by omega
    subst hb
    rw [c_M_common, if_pos (by rw [lg_eq0]; rfl), Nat.gcd_zero_right]
  | k + 1, r, a, b, hr, hb, hk, ha => by
    by_cases h0 : b = 0
    · subst h0
      rw [c_M_common, if_pos (by rw [lg_eq0]; rfl), Nat.gcd_zero_right]
    · have hp : 2 ^ (k + 1) ≤ 2 ^ 62 := Nat.pow_le_pow_right (by omega) (by omega)
      have h1 : a % b < b := Nat.mod_lt _ (by omega)
      obtain ⟨r', rfl⟩ : ∃ r', r = r' + 1 := ⟨r - 1, by omega⟩
      have g1 : Nat.gcd a b = Nat.gcd b (a % b) := by
        rw [Nat.gcd_comm a b, Nat.gcd_rec b a, Nat.gcd_comm]
      rw [c_M_common, if_neg (by rw [lg_eq0]; exact lN_n0 (by omega) (by omega)), if_neg (lN_n0 (by omega) (by omega)), lN_r63 ha (by omega) (by omega), g1]
      by_cases h2 : a % b = 0
      · rw [h2, c_M_common, if_pos (by rw [lg_eq0]; rfl), cL_s, Nat.gcd_zero_right]
      · have h3 : b % (a % b) < a % b := Nat.mod_lt _ (by omega)
        have h4 : b % (a % b) < 2 ^ k := by
          have h5 : b = a % b * (b / (a % b)) + b % (a % b) := (Nat.div_add_mod b (a % b)).symm
          have h6 : 1 ≤ b / (a % b) := (Nat.le_div_iff_mul_le (by omega)).mpr (by omega)
          have h7 : a % b * 1 ≤ a % b * (b / (a % b)) := Nat.mul_le_mul_left _ h6
          rw [Nat.pow_succ] at hb
          omega
        have g2 : Nat.gcd b (a % b) = Nat.gcd (a % b) (b % (a % b)) := by
          rw [Nat.gcd_comm b (a % b), Nat.gcd_rec (a % b) b, Nat.gcd_comm]
        obtain ⟨r'', rfl⟩ : ∃ r'', r' = r'' + 1 := by
          cases r' with
          | zero => omega
          | succ r'' => exact ⟨r'', rfl⟩
        rw [c_M_common, if_neg (by rw [lg_eq0]; exact lN_n0 (by omega) (by omega)), if_neg (lN_n0 (by omega) (by omega)), lN_r63 (by omega) (by omega) (by omega), s_common σ k r'' (a % b) (b % (a % b)) (by omega) h4 (by omega) (by omega), cL_s, cL_s, g2]
/-- in lowest terms: above, below -/
def lo (a b : Nat) (w : Int32) : Nat := cond (decide (cl w = 0)) (a / Nat.gcd a b) (b / Nat.gcd a b)
theorem s_part (σ : St) {a b : Nat} (ha : a < 2 ^ 49) (hb : b < 2 ^ 49) (h0 : 0 < b) {w : Int32} (hw : inB w 2 = true) : Cc 328 0 [vL (lN a), vL (lN b), vI w] σ = some (some (vL (lN (lo a b w))), σ) := by
  have hg : 0 < Nat.gcd a b := Nat.gcd_pos_of_pos_right a h0
  have hg2 : Nat.gcd a b ≤ b := Nat.le_of_dvd h0 (Nat.gcd_dvd_right a b)
  rw [c_M_part, s_common σ 49 99 a b (by omega) hb (by omega) (by omega), cL_s, cL_s, if_neg (lN_n0 (by omega) hg), if_neg (lN_n0 (by omega) hg), lN_d63 (by omega) (by omega) hg, lN_d63 (by omega) (by omega) hg]
  rcases half_e hw with rfl | rfl
  · rw [if_pos q_0]; rfl
  · rw [if_neg (by decide)]; rfl
/-- two fractions that are one have one form in lowest terms -/
theorem lo_eq {a b c d : Nat} (hb : 0 < b) (hd : 0 < d) (h : a * d = c * b) (w : Int32) : lo a b w = lo c d w := by
  have g1 : 0 < Nat.gcd a b := Nat.gcd_pos_of_pos_right a hb
  have g2 : 0 < Nat.gcd c d := Nat.gcd_pos_of_pos_right c hd
  have k1 : Nat.Coprime (a / Nat.gcd a b) (b / Nat.gcd a b) := Nat.coprime_div_gcd_div_gcd g1
  have k2 : Nat.Coprime (c / Nat.gcd c d) (d / Nat.gcd c d) := Nat.coprime_div_gcd_div_gcd g2
  have e1 : Nat.gcd a b * (a / Nat.gcd a b) = a := Nat.mul_div_cancel' (Nat.gcd_dvd_left a b)
  have e2 : Nat.gcd a b * (b / Nat.gcd a b) = b := Nat.mul_div_cancel' (Nat.gcd_dvd_right a b)
  have e3 : Nat.gcd c d * (c / Nat.gcd c d) = c := Nat.mul_div_cancel' (Nat.gcd_dvd_left c d)
  have e4 : Nat.gcd c d * (d / Nat.gcd c d) = d := Nat.mul_div_cancel' (Nat.gcd_dvd_right c d)
  unfold lo
  generalize Nat.gcd a b = g at *
  generalize Nat.gcd c d = k at *
  generalize a / g = x at *
  generalize b / g = y at *
  generalize c / k = u at *
  generalize d / k = v at *
  have hxy : x * v = u * y := by
    have h1 : g * k * (x * v) = g * k * (u * y) := by
      have : (g * x) * (k * v) = (k * u) * (g * y) := by rw [e1, e2, e3, e4]; exact h
      rw [Nat.mul_mul_mul_comm] at this
      rw [this, Nat.mul_mul_mul_comm, Nat.mul_comm k g]
    exact Nat.eq_of_mul_eq_mul_left (Nat.mul_pos g1 g2) h1
  have d1 : x ∣ u := k1.dvd_of_dvd_mul_right (by rw [← hxy]; exact Nat.dvd_mul_right x v)
  have d2 : u ∣ x := k2.dvd_of_dvd_mul_right (by rw [hxy]; exact Nat.dvd_mul_right u y)
  have d3 : y ∣ v := k1.symm.dvd_of_dvd_mul_left (by rw [hxy]; exact Nat.dvd_mul_left y u)
  have d4 : v ∣ y := k2.symm.dvd_of_dvd_mul_left (by rw [← hxy]; exact Nat.dvd_mul_left v x)
  rw [Nat.dvd_antisymm d1 d2, Nat.dvd_antisymm d3 d4]
theorem lo_le {a b M : Nat} (ha : a ≤ M) (hb : b ≤ M) (w : Int32) : lo a b w ≤ M := by
  unfold lo
  have h1 : a / Nat.gcd a b ≤ a := Nat.div_le_self _ _
  have h2 : b / Nat.gcd a b ≤ b := Nat.div_le_self _ _
  cases decide (cl w = 0)
  · show b / Nat.gcd a b ≤ M
    omega
  · show a / Nat.gcd a b ≤ M
    omega
/-! how many bits -/
def pc (x : Nat) : Nat := cn (Nat.testBit x) 8
theorem pc_dec : ∀ x, x < 256 → x = 0 ∨ ((x &&& (x - 1)) < 256 ∧ pc (x &&& (x - 1)) + 1 = pc x) := by decide +kernel
theorem s_sizeOf (σ : St) {x : Nat} (hx : x < 256) : Cc 253 0 [vI (nI x)] σ = some (some (vI (nI (pc x))), σ) := by
  rw [c_M_sizeOf]
  have key : ∀ k y n, y < 256 → pc y = k → Vv 253 0 4 [some (vI (nI x)), some (vI (nI n)), some (vI (nI y))] [] σ = some (some (vI (nI (n + k))), σ) := by
    intro k
    induction k with
    | zero =>
      intro y n hy hk
      rcases pc_dec y hy with h | h
      · subst h
        rw [v_M_sizeOf_4, if_pos q_0]
        rfl
      · omega
    | succ k ih =>
      intro y n hy hk
      have h0 : y ≠ 0 := fun z => by rw [z] at hk; cases hk
      rcases pc_dec y hy with h | h
      · exact absurd h h0
      · have e1 : nI y - 1 = nI (y - 1) := pk_sub (b := 1) (by omega)
        rw [v_M_sizeOf_4, if_neg (nI_ne0 (by omega) (by omega)), e1, nI_and, nI_1, ih _ (n + 1) h.1 (by omega), show n + 1 + k = n + (k + 1) by omega]
  have := key (pc x) x 0 hx rfl
  rw [Nat.zero_add] at this
  exact this
/-- factorials -/
def fc : Nat → Nat
  | 0 => 1
  | n + 1 => (n + 1) * fc n
theorem s_times (σ : St) : ∀ (n r : Nat), n ≤ r + 1 → n < 2 ^ 31 → Cc 326 (r + 1) [vI (nI n)] σ = some (some (vI (nI (fc n))), σ)
  | 0, r, _, _ => by
    rw [c_M_times, if_pos (by decide)]
    rfl
  | 1, r, _, _ => by
    rw [c_M_times, if_pos (by decide)]
    rfl
  | n + 2, r, h, h' => by
    obtain ⟨r', rfl⟩ : ∃ r', r = r' + 1 := ⟨r - 1, by omega⟩
    have e0 : ¬ nI (n + 2) < (2 : Int32) := nI_nlt (b := 2) (by omega) h'
    rw [c_M_times, if_neg e0, nI_pred, s_times σ (n + 1) r' (by omega) (by omega), cI_s, pk_mul]
    rfl
theorem s_power (σ : St) (a : Nat) : ∀ (n r : Nat), n ≤ r → n < 2 ^ 31 → Cc 353 (r + 1) [vL (lN a), vI (nI n)] σ = some (some (vL (lN (a ^ n))), σ)
  | 0, r, _, _ => by
    rw [c_M_power, if_pos q_0]
    rfl
  | n + 1, r, h, h' => by
    obtain ⟨r', rfl⟩ : ∃ r', r = r' + 1 := ⟨r - 1, by omega⟩
    rw [c_M_power, if_neg (nI_ne0 (by omega) h'), nI_pred, s_power σ a n r' (by omega) (by omega), cL_s, lN_mul, Nat.pow_succ, Nat.mul_comm a]
/-! sets of places -/
/-- what is seen from a set -/
def aS (R : RF) (s : Nat → Nat → Bool) (set : Nat → Bool) (m : Nat) : Bool := ex (fun p => set p && s p m) (nP R)
theorem s_allOf {σ : St} {R : RF} (h : H0 σ R) {fl : Nat → Bool} (hs : SE σ R fl) {x : Nat} (hx : x < 2 ^ 31) : Cc 332 0 [vR 96 0, vI (nI x)] σ = some (some (vI (nI (bn (aS R (see R fl) (Nat.testBit x)) (nM R)))), σ) := by
  have hbb := h.b
  rw [c_M_allOf]
  have hl := lpU (V := fun j => Vv 332 0 4 [some (vR 96 0), some (vI (nI x)), some (vI (nI (bn (fun m => ex (fun p => Nat.testBit x p && see R fl p m) j) (nM R)))), some (vI (nI j))] [] σ) (n := nP R) (fun j hj => by
    show Vv _ _ _ _ _ _ = Vv _ _ _ _ _ _
    rw [v_M_allOf_4, cI_P h, if_pos (nI_lt hj (by omega)), s_isBit, cI_s, bit_n hx (by omega), tv_ite, or0, ix_nI (by omega) (by omega), hs j hj, nI_or, bn_or, nI_1]
    cases hq : Nat.testBit x j
    · rw [cond_false]
      refine congrArg (fun z => Vv 332 0 4 [some (vR 96 0), some (vI (nI x)), some (vI (nI z)), some (vI (nI (j + 1)))] [] σ) (bn_congr (fun m _ => ?_))
      rw [ex_succ, hq, Bool.false_and, Bool.or_false]
    · rw [cond_true]
      refine congrArg (fun z => Vv 332 0 4 [some (vR 96 0), some (vI (nI x)), some (vI (nI z)), some (vI (nI (j + 1)))] [] σ) (bn_congr (fun m _ => ?_))
      rw [ex_succ, hq, Bool.true_and])
  have e0 : bn (fun m => ex (fun p => Nat.testBit x p && see R fl p m) 0) (nM R) = 0 := bn_0.mpr (fun _ _ => rfl)
  have hl : Vv 332 0 4 [some (vR 96 0), some (vI (nI x)), some (vI (nI (bn (fun m => ex (fun p => Nat.testBit x p && see R fl p m) 0) (nM R)))), some (vI (nI 0))] [] σ = Vv 332 0 4 [some (vR 96 0), some (vI (nI x)), some (vI (nI (bn (aS R (see R fl) (Nat.testBit x)) (nM R)))), some (vI (nI (nP R)))] [] σ := hl
  rw [e0] at hl
  refine Eq.trans hl ?_
  rw [v_M_allOf_4, cI_P h, if_neg (nI_nlt (Nat.le_refl _) (by omega))]
theorem pw_le {n N : Nat} (h : n ≤ N) : 2 ^ n ≤ 2 ^ N := Nat.pow_le_pow_right (by omega) h
theorem m_all {σ : St} {R : RF} (h : H0 σ R) (a1 : Int32) : RM 333 [vI a1] σ (vI (cond (decide (0 < nN R) && inB a1 (2 ^ nP R)) (nI (wth R (aS R (see R (fal R)) (Nat.testBit (cl a1))))) (-2))) := by
  have hbb := h.b
  have h1 := thr_H h
  have hp := pw_le hbb.1
  obtain ⟨σ3, c3, f3, h3, -, -, -, -, s3⟩ := s_lays h1
  refine RM_of (by rw [c_M_all, r_isRoof h1, cI_s, tv_ite, cI_P h1, s_in, cI_s, shl_1 _ (by omega), inB_64 a1 (by omega), tv_ite, c3, cV_s, cond_and]) (thr_F σ) (fun hq => ⟨σ3, ?_, f3⟩)
  rw [Bool.and_eq_true] at hq
  obtain ⟨k1, g1, rfl⟩ := inB_e (by omega) hq.2
  rw [cl_n (by omega), s_allOf h3 s3 (by omega), cI_s, s_worthW h3, cI_s]
/-- the least set of fewest that sees all -/
def wat (R : RF) (s : Nat → Nat → Bool) : Nat → Nat
  | 0 => 2 ^ nP R - 1
  | n + 1 => cond (decide (pc n < pc (wat R s n)) && decide (bn (aS R s (Nat.testBit n)) (nM R) = bn (aS R s (Nat.testBit (2 ^ nP R - 1))) (nM R))) n (wat R s n)
theorem wat_lt (R : RF) (s : Nat → Nat → Bool) : ∀ n, n ≤ 2 ^ nP R - 1 → wat R s n ≤ 2 ^ nP R - 1
  | 0, _ => Nat.le_refl _
  | n + 1, h => by
    have ih := wat_lt R s n (by omega)
    show cond _ n (wat R s n) ≤ _
    cases (decide (pc n < pc (wat R s n)) && decide (bn (aS R s (Nat.testBit n)) (nM R) = bn (aS R s (Nat.testBit (2 ^ nP R - 1))) (nM R)))
    · exact ih
    · show n ≤ _
      omega
theorem s_watchOf {σ : St} {R : RF} (h : H0 σ R) : ∃ σ', Cc 335 0 [vR 96 0] σ = some (some (vI (nI (wat R (see R (fal R)) (2 ^ nP R - 1)))), σ') ∧ Fr scM σ σ' := by
  have hbb := h.b
  have hp := pw_le hbb.1
  have hp0 : 0 < 2 ^ nP R := Nat.pow_pos (by omega)
  obtain ⟨σ3, c3, f3, h3, -, -, -, -, s3⟩ := s_lays h
  refine ⟨σ3, ?_, f3⟩
  rw [c_M_watchOf, c3, cV_s, cI_P h3, all_n (by omega), bn_all]
  have hl := lpU (V := fun j => Vv 335 0 17 [some (vR 96 0), some (vI (nI (2 ^ nP R - 1))), some (vI (nI (wat R (see R (fal R)) j))), some (vI (nI j))] [] σ3) (n := 2 ^ nP R - 1) (fun j hj => by
    show Vv _ _ _ _ _ _ = Vv _ _ _ _ _ _
    have hw := wat_lt R (see R (fal R)) j (by omega)
    have q1 : pc j ≤ 8 := cn_le _ _
    have q2 : pc (wat R (see R (fal R)) j) ≤ 8 := cn_le _ _
    have b1 : ∀ z, bn (aS R (see R (fal R)) (Nat.testBit z)) (nM R) < 2 ^ 31 := fun z => bn_le (by omega)
    rw [v_M_watchOf_17, if_pos (nI_lt hj (by omega)), s_sizeOf σ3 (by omega), cI_s, s_sizeOf σ3 (by omega), cI_s, s_allOf h3 s3 (by omega), cI_s, s_allOf h3 s3 (by omega), cI_s, nI_1, ite_n, ite_n]
    simp only [nI_ltI (show pc j < 2 ^ 31 by omega) (show pc (wat R (see R (fal R)) j) < 2 ^ 31 by omega), nI_eq (b1 j) (b1 (2 ^ nP R - 1))]
    show _ = Vv 335 0 17 [some (vR 96 0), some (vI (nI (2 ^ nP R - 1))), some (vI (nI (cond (decide (pc j < pc (wat R (see R (fal R)) j)) && decide (bn (aS R (see R (fal R)) (Nat.testBit j)) (nM R) = bn (aS R (see R (fal R)) (Nat.testBit (2 ^ nP R - 1))) (nM R))) j (wat R (see R (fal R)) j)))), some (vI (nI (j + 1)))] [] σ3
    cases decide (pc j < pc (wat R (see R (fal R)) j)) <;> cases decide (bn (aS R (see R (fal R)) (Nat.testBit j)) (nM R) = bn (aS R (see R (fal R)) (Nat.testBit (2 ^ nP R - 1))) (nM R)) <;> rfl)
  refine Eq.trans hl ?_
  show Vv _ _ _ _ _ _ = _
  rw [v_M_watchOf_17, if_neg (nI_nlt (Nat.le_refl _) (by omega))]
theorem m_watches {σ : St} {R : RF} (h : H0 σ R) : RM 337 [] σ (vI (cond (decide (0 < nN R)) (nI (wat R (see R (fal R)) (2 ^ nP R - 1))) (-2))) := by
  have h1 := thr_H h
  obtain ⟨σ3, c3, f3⟩ := s_watchOf h1
  exact RM_of (by rw [c_M_watches, r_isRoof h1, cI_s, tv_ite, c3, cI_s]) (thr_F σ) (fun hq => ⟨σ3, rfl, f3⟩)
theorem m_watch {σ : St} {R : RF} (h : H0 σ R) : RM 336 [] σ (vI (cond (decide (0 < nN R)) (nI (pc (wat R (see R (fal R)) (2 ^ nP R - 1)))) (-2))) := by
  have hbb := h.b
  have hp := pw_le hbb.1
  have h1 := thr_H h
  obtain ⟨σ3, c3, f3⟩ := s_watchOf h1
  have hw := wat_lt R (see R (fal R)) _ (Nat.le_refl _)
  exact RM_of (by rw [c_M_watch, r_isRoof h1, cI_s, tv_ite, c3, cI_s, s_sizeOf σ3 (by omega), cI_s]) (thr_F σ) (fun hq => ⟨σ3, rfl, f3⟩)
