/-! THE REFERENCE'S ANSWERS: shares -/
def pcc (n : Nat) : Bool := (List.range (2 ^ n)).all (fun x => (List.range n).all (fun p => Nat.testBit x p || Nat.ble (pc x + 1) n))
theorem pcc_d : ∀ n, n < 7 → pcc n = true := by decide +kernel
theorem pc_out {n x p : Nat} (hn : n ≤ 6) (hx : x < 2 ^ n) (hp : p < n) (h : Nat.testBit x p = false) : pc x + 1 ≤ n := by
  have := List.all_eq_true.mp (List.all_eq_true.mp (pcc_d n (by omega)) x (List.mem_range.mpr hx)) p (List.mem_range.mpr hp)
  rw [h] at this
  exact Nat.le_of_ble_eq_true this
theorem fc_d : ∀ a, a < 6 → ∀ b, b < 6 → a + b ≤ 5 → fc a * fc b ≤ 120 := by decide +kernel
theorem sm_mono {f g : Nat → Nat} : ∀ {n : Nat}, (∀ k, k < n → f k ≤ g k) → sm f n ≤ sm g n
  | 0, _ => Nat.le_refl _
  | n + 1, h => by
    have h1 := sm_mono (f := f) (g := g) (n := n) (fun k hk => h k (by omega))
    have h2 := h n (by omega)
    show sm f n + f n ≤ sm g n + g n
    omega
theorem wth_mono {R : RF} {P Q : Nat → Bool} (h : ∀ m, m < nM R → P m = true → Q m = true) : wth R P ≤ wth R Q := sm_mono (fun m hm => by
  cases hp : P m
  · exact Nat.zero_le _
  · rw [h m hm hp]
    exact Nat.le_refl _)
/-- one set of those who came ahead: what one has more by it -/
def shT (R : RF) (s : Nat → Nat → Bool) (p x : Nat) : Nat := cond (Nat.testBit x p) 0 (fc (pc x) * fc (nP R - pc x - 1) * (wth R (aS R s (Nat.testBit (x ||| 2 ^ p))) - wth R (aS R s (Nat.testBit x))))
def shr (R : RF) (s : Nat → Nat → Bool) (p : Nat) : Nat := sm (shT R s p) (2 ^ nP R)
theorem shT_le {R : RF} (h : WF R) (s : Nat → Nat → Bool) {p x : Nat} (hp : p < nP R) (hx : x < 2 ^ nP R) : shT R s p x ≤ 83160 := by
  unfold shT
  cases hq : Nat.testBit x p
  · rw [cond_false]
    have h1 := wth_le h (aS R s (Nat.testBit (x ||| 2 ^ p)))
    have h2 : nP R ≤ 6 := h.1.1
    have h3 := pc_out h2 hx hp hq
    have h4 := fc_d (pc x) (by omega) (nP R - pc x - 1) (by omega) (by omega)
    exact Nat.le_trans (Nat.mul_le_mul h4 (show _ ≤ 693 by omega)) (by omega)
  · exact Nat.zero_le _
theorem shr_le {R : RF} (h : WF R) (s : Nat → Nat → Bool) {p : Nat} (hp : p < nP R) : shr R s p ≤ 5322240 := by
  have h1 := sm_le (f := shT R s p) (c := 83160) (n := 2 ^ nP R) (fun x hx => shT_le h s hp hx)
  have h2 := pw_le h.1.1
  have h3 : shr R s p ≤ 83160 * 2 ^ nP R := h1
  omega
theorem aS_mono {R : RF} {s : Nat → Nat → Bool} {x p m : Nat} (h : aS R s (Nat.testBit x) m = true) : aS R s (Nat.testBit (x ||| 2 ^ p)) m = true := by
  obtain ⟨k, h1, h2⟩ := ex_iff.mp h
  rw [Bool.and_eq_true] at h2
  exact ex_iff.mpr ⟨k, h1, by rw [Nat.testBit_or, h2.1, h2.2]; rfl⟩
theorem fc_pos : ∀ n, 0 < fc n
  | 0 => by decide
  | n + 1 => Nat.mul_pos (by omega) (fc_pos n)
theorem fc_le : ∀ n, n < 7 → fc n ≤ 720 := by decide +kernel
theorem m_share {σ : St} {R : RF} (h : H0 σ R) (a1 a2 : Int32) : RM 334 [vI a1, vI a2] σ (vI (cond (inB a1 (nP R) && inB a2 2) (nI (lo (shr R (see R (fal R)) (cl a1)) (fc (nP R)) a2)) (-2))) := by
  have hbb := h.b
  have h1 := thr_H h
  have h64 := pw_le hbb.1
  obtain ⟨σ3, c3, f3, h3, -, -, -, -, s3⟩ := s_lays h1
  refine RM_of (by rw [c_M_share, r_isPlace h1, cI_s, tv_ite, r_isHalf, cI_s, tv_ite, c3, cV_s, cond_and]) (thr_F σ) (fun hq => ⟨σ3, ?_, f3⟩)
  rw [Bool.and_eq_true] at hq
  obtain ⟨p, hp, rfl⟩ := inB_e (by omega) hq.1
  rw [cl_n (by omega)]
  have key : ∀ k x (o5 : Option AV), x + k = 2 ^ nP R → Vv 334 0 33 [some (vR 96 0), some (vI (nI p)), some (vI a2), some (vI (nI (sm (shT R (see R (fal R)) p) x))), some (vI (nI x)), o5] [] σ3 = some (some (vI (nI (lo (shr R (see R (fal R)) p) (fc (nP R)) a2))), σ3) := by
    intro k
    induction k with
    | zero =>
      intro x o5 hx
      have hx : x = 2 ^ nP R := by omega
      subst hx
      have hs := shr_le h.1 (see R (fal R)) hp
      have hf := fc_le (nP R) (by omega)
      have es : sm (shT R (see R (fal R)) p) (2 ^ nP R) = shr R (see R (fal R)) p := rfl
      rw [w_M_share_33, cI_P h3, shl_1 _ (by omega), if_neg (nI_nlt (Nat.le_refl _) (by omega)), cI_P h3, s_times σ3 (nP R) 11 (by omega) (by omega), cI_s, es, nI_l (by omega), nI_l (by omega), s_part σ3 (by omega) (by omega) (fc_pos _) hq.2, cL_s, lN_i]
    | succ k ih =>
      intro x o5 hx
      have hxl : x < 2 ^ nP R := by omega
      have es : sm (shT R (see R (fal R)) p) (x + 1) = sm (shT R (see R (fal R)) p) x + shT R (see R (fal R)) p x := rfl
      rw [w_M_share_33, cI_P h3, shl_1 _ (by omega), if_pos (nI_lt hxl (by omega)), s_isBit, cI_s, bit_n (by omega) (by omega), tv_ite, nI_1]
      cases hb : Nat.testBit x p
      · have hpo := pc_out hbb.1 hxl hp hb
        have hor : x ||| 2 ^ p < 2 ^ 31 := Nat.or_lt_two_pow (by omega) (Nat.pow_lt_pow_right (by omega) (by omega))
        have hmo := wth_mono (R := R) (P := aS R (see R (fal R)) (Nat.testBit x)) (Q := aS R (see R (fal R)) (Nat.testBit (x ||| 2 ^ p))) (fun m _ hm => aS_mono hm)
        have e1 : nI (nP R - pc x) - 1 = nI (nP R - pc x - 1) := pk_sub (b := 1) (by omega)
        rw [cond_false, s_sizeOf σ3 (by omega), cI_s, v_M_share_63, s_times σ3 (pc x) 11 (by omega) (by omega), cI_s, cI_P h3, pk_sub (show pc x ≤ nP R by omega), e1, s_times σ3 (nP R - pc x - 1) 11 (by omega) (by omega), cI_s, shl_1 _ (by omega), nI_or, s_allOf h3 s3 hor, cI_s, s_worthW h3, cI_s, s_allOf h3 s3 (by omega), cI_s, s_worthW h3, cI_s, pk_mul, pk_sub hmo, pk_mul, nI_add, nI_1]
        have ih' := ih (x + 1) (some (vI (nI (pc x)))) (by omega)
        rw [es] at ih'
        have et : shT R (see R (fal R)) p x = fc (pc x) * fc (nP R - pc x - 1) * (wth R (aS R (see R (fal R)) (Nat.testBit (x ||| 2 ^ p))) - wth R (aS R (see R (fal R)) (Nat.testBit x))) := by
          unfold shT
          rw [hb]; rfl
        rw [et] at ih'
        exact ih'
      · rw [cond_true]
        have ih' := ih (x + 1) o5 (by omega)
        have et : shT R (see R (fal R)) p x = 0 := by
          unfold shT
          rw [hb]; rfl
        rw [es, et, Nat.add_zero] at ih'
        exact ih'
  exact key (2 ^ nP R) 0 none (by omega)
