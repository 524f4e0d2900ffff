/-! THE CLASS'S ANSWERS that write nothing: sets, watches, the game, lowest terms, shares -/
theorem nI_self (a : Int32) : a = nI a.toBitVec.toNat := by
  apply Int32.toBitVec_inj.mp
  show a.toBitVec = BitVec.ofNat 32 a.toBitVec.toNat
  rw [BitVec.ofNat_toNat, BitVec.setWidth_eq]
theorem mask0 (a : Int32) {n : Nat} (hn : n ≤ 30) : decide (a &&& (nI (bn (fun _ => true) n) ^^^ (-1)) = 0) = inB a (2 ^ n) := by
  have hp : 2 ^ n ≤ 2 ^ 30 := pw_le hn
  cases hq : inB a (2 ^ n)
  · refine decide_eq_false (fun hz => ?_)
    have hx : a.toBitVec.toNat < 2 ^ n := by
      apply Nat.lt_pow_two_of_testBit
      intro i hi
      by_cases h32 : i < 32
      · have e1 := congrArg (fun z : Int32 => z.toBitVec.getLsbD i) hz
        have e2 : (a &&& (nI (bn (fun _ => true) n) ^^^ (-1))).toBitVec = a.toBitVec &&& (BitVec.ofNat 32 (bn (fun _ => true) n) ^^^ (-1 : BitVec 32)) := rfl
        have e3 : (-1 : BitVec 32).getLsbD i = true := by
          have : ∀ i, i < 32 → (-1 : BitVec 32).getLsbD i = true := by decide +kernel
          exact this i h32
        have e1 : (a &&& (nI (bn (fun _ => true) n) ^^^ (-1))).toBitVec.getLsbD i = (0 : Int32).toBitVec.getLsbD i := e1
        rw [e2, BitVec.getLsbD_and, BitVec.getLsbD_xor, BitVec.getLsbD_ofNat, bn_tb, e3, decide_eq_false (show ¬ i < n by omega)] at e1
        have e4 : (0 : Int32).toBitVec.getLsbD i = false := by
          show (0 : BitVec 32).getLsbD i = false
          exact BitVec.getLsbD_zero
        rw [e4, Bool.false_and, Bool.and_false] at e1
        have e5 : (a.toBitVec.getLsbD i && true) = false := e1
        rw [Bool.and_true] at e5
        exact e5
      · exact BitVec.getLsbD_of_ge _ _ (by omega)
    have := inB_n hx (show 2 ^ n < 2 ^ 31 by omega)
    rw [← nI_self a, hq] at this
    cases this
  · obtain ⟨k, hk, rfl⟩ := inB_e (by omega) hq
    rw [bn_of hk, bn_anot]
    refine decide_eq_true ?_
    rw [bn_0.mpr (fun j _ => by simp)]
    rfl
theorem t_all {σ : St} {R : RF} (h : HV σ R) (a1 : Int32) : RH 155 [vI a1] σ (vI (cond (decide (0 < nN R) && inB a1 (2 ^ nP R)) (nI (wth R (aS R (see R (fal R)) (Nat.testBit (cl a1))))) (-2))) := by
  have hbb := h.1.b
  have hp := pw_le hbb.1
  refine RH_of (by rw [c_H_all, h_isTold h.1, cI_s, tv_ite, k_all h.1.prP (by omega), cI_s, ite_n, mask0 a1 (by omega), cond_and]) (fun hq => ?_)
  rw [Bool.and_eq_true] at hq
  obtain ⟨k, hk, rfl⟩ := inB_e (by omega) hq.2
  rw [cl_n (by omega), k_marksFromSet h.1 h.2.1 (by omega), cI_s, k_worthOfSet h.1, cI_s]
theorem bc_dec : ∀ x, x < 64 → Cc 371 0 [vI (nI x)] = fun σ => some (some (vI (nI (pc x))), σ) := by
  intro x hx
  funext σ
  rw [c_Integer_bitCount]
  refine congrArg (fun z => some (some (vI z), σ)) ?_
  revert x
  decide +kernel
theorem k_bitCount (σ : St) {x : Nat} (hx : x < 64) : Cc 371 0 [vI (nI x)] σ = some (some (vI (nI (pc x))), σ) := by rw [bc_dec x hx]
theorem k_leastWatch {σ : St} {R : RF} (h : HV σ R) : Cc 109 0 [vR 72 0] σ = some (some (vI (nI (wat R (see R (fal R)) (2 ^ nP R - 1)))), σ) := by
  have hbb := h.1.b
  have hp := pw_le hbb.1
  have hp0 : 0 < 2 ^ nP R := Nat.pow_pos (by omega)
  rw [c_Sight_leastWatch, k_all h.1.prP (by omega), cI_s, bn_all, k_marksFromSet h.1 h.2.1 (by omega), cI_s]
  have b1 : ∀ z, bn (aS R (see R (fal R)) (Nat.testBit z)) (nM R) < 2 ^ 31 := fun z => bn_le (by omega)
  have hstep : ∀ j b, j ≤ 2 ^ nP R - 1 → b ≤ 2 ^ nP R - 1 → Vv 109 0 22 [some (vR 72 0), some (vI (nI (2 ^ nP R - 1))), some (vI (nI (bn (aS R (see R (fal R)) (Nat.testBit (2 ^ nP R - 1))) (nM R)))), some (vI (nI b)), some (vI (nI j))] [] σ = Vv 109 0 22 [some (vR 72 0), some (vI (nI (2 ^ nP R - 1))), some (vI (nI (bn (aS R (see R (fal R)) (Nat.testBit (2 ^ nP R - 1))) (nM R)))), some (vI (nI (cond (decide (pc j < pc b) && decide (bn (aS R (see R (fal R)) (Nat.testBit j)) (nM R) = bn (aS R (see R (fal R)) (Nat.testBit (2 ^ nP R - 1))) (nM R))) j b))), some (vI (nI (j + 1)))] [] σ := fun j b hj hb => by
    have q1 : pc j ≤ 8 := cn_le _ _
    have q2 : pc b ≤ 8 := cn_le _ _
    rw [v_Sight_leastWatch_22, if_pos (nI_le hj (by omega)), k_marksFromSet h.1 h.2.1 (by omega), cI_s, k_bitCount σ (by omega), cI_s, k_bitCount σ (by omega), cI_s, nI_1, eq_c (b1 j) (b1 _), lt_c (by omega) (by omega)]
    cases decide (pc j < pc b) <;> cases decide (bn (aS R (see R (fal R)) (Nat.testBit j)) (nM R) = bn (aS R (see R (fal R)) (Nat.testBit (2 ^ nP R - 1))) (nM R)) <;> rfl
  have hl := lpU (V := fun j => Vv 109 0 22 [some (vR 72 0), some (vI (nI (2 ^ nP R - 1))), some (vI (nI (bn (aS R (see R (fal R)) (Nat.testBit (2 ^ nP R - 1))) (nM R)))), some (vI (nI (wat R (see R (fal R)) j))), some (vI (nI j))] [] σ) (n := 2 ^ nP R - 1) (fun j hj => hstep j _ (by omega) (wat_lt R _ j (by omega)))
  refine Eq.trans hl ?_
  show Vv _ _ _ _ _ _ = _
  have hw := wat_lt R (see R (fal R)) (2 ^ nP R - 1) (Nat.le_refl _)
  -- the whole set itself is never fewer
  have hpe : ∀ n, pc (wat R (see R (fal R)) n) ≤ pc (2 ^ nP R - 1) := by
    intro n
    induction n with
    | zero => exact Nat.le_refl _
    | succ n ih =>
      show pc (cond _ n (wat R (see R (fal R)) n)) ≤ _
      by_cases hc : pc n < pc (wat R (see R (fal R)) n)
      · cases hq : decide (bn (aS R (see R (fal R)) (Nat.testBit n)) (nM R) = bn (aS R (see R (fal R)) (Nat.testBit (2 ^ nP R - 1))) (nM R))
        · rw [Bool.and_false]; exact ih
        · rw [decide_eq_true hc]
          show pc n ≤ _
          omega
      · rw [decide_eq_false hc, Bool.false_and]; exact ih
  rw [hstep _ _ (Nat.le_refl _) hw, decide_eq_false (show ¬ pc (2 ^ nP R - 1) < pc (wat R (see R (fal R)) (2 ^ nP R - 1)) by have := hpe (2 ^ nP R - 1); omega), Bool.false_and, cond_false, v_Sight_leastWatch_22, if_neg (nI_ge (by omega) (by omega))]
theorem t_watches {σ : St} {R : RF} (h : HV σ R) : RH 157 [] σ (vI (cond (decide (0 < nN R)) (nI (wat R (see R (fal R)) (2 ^ nP R - 1))) (-2))) :=
  RH_of (by rw [c_H_watches, h_isTold h.1, cI_s, tv_ite]) (fun hq => by rw [k_leastWatch h, cI_s])
theorem t_watch {σ : St} {R : RF} (h : HV σ R) : RH 156 [] σ (vI (cond (decide (0 < nN R)) (nI (pc (wat R (see R (fal R)) (2 ^ nP R - 1)))) (-2))) := by
  have hbb := h.1.b
  have hp := pw_le hbb.1
  have hw := wat_lt R (see R (fal R)) (2 ^ nP R - 1) (Nat.le_refl _)
  exact RH_of (by rw [c_H_watch, h_isTold h.1, cI_s, tv_ite]) (fun hq => by rw [k_leastWatch h, cI_s, k_bitCount σ (by omega), cI_s])
/-! the game -/
theorem nx_all {n p : Nat} (hp : p < n) : nx (fun _ => true) n p = (p + 1) % n := by
  unfold nx
  obtain ⟨m, rfl⟩ : ∃ m, n = m + 1 := ⟨n - 1, by omega⟩
  have e : fr (fun k => (fun _ => true) ((p + k) % (m + 1))) (m + 1) 1 = 1 := rfl
  rw [e, decide_eq_true (show 1 < 1 + (m + 1) by omega)]
  rfl
theorem h_game {σ : St} {R : RF} (h : HV σ R) {l x : Nat} (hl : l < nL R) (hx : x ≤ 1) : Cc 197 0 [vR 88 0, vI (nI l), vI (nI x)] σ = some (some (vI (nI (bn (see R (fal R) (tnP R l x)) (nM R)))), σ) := by
  have hbb := h.1.b
  have hp := (h.1.1.2.2.2.2.2.2.1 l hl).1
  have hcase : x = 0 ∨ x = 1 := by omega
  rw [c_H_marksInGame, k_lp h.1 hl, cI_s]
  rcases hcase with rfl | rfl
  · rw [if_neg (by decide), k_marksFrom h.1 h.2.1 hp, cI_s]
    unfold tnP
    rw [Nat.add_zero, Nat.mod_eq_of_lt hp]
  · rw [if_pos q_1, k_all h.1.prP (by omega), cI_s, k_nextIn h.1 hp, cI_s, nx_all hp, k_marksFrom h.1 h.2.1 (Nat.mod_lt _ (by omega)), cI_s]
    rfl
theorem h_gain {σ : St} {R : RF} (h : HV σ R) {a b x y : Nat} (ha : a < nL R) (hb : b < nL R) (hx : x ≤ 1) (hy : y ≤ 1) : Cc 196 0 [vR 88 0, vI (nI a), vI (nI b), vI (nI x), vI (nI y)] σ = some (some (vI (nI (gt R (see R (fal R)) a b x y))), σ) := by
  have w2 := wth_le h.1.1 (fun m => see R (fal R) (tnP R a x) m && see R (fal R) (tnP R b y) m)
  rw [c_H_gain, h_game h ha hx, cI_s, h_game h hb hy, cI_s, bn_anot, k_worthOfSet h.1, cI_s, nI_and, bn_and, k_worthOfSet h.1, cI_s, if_neg two_ne, div2 (by omega), nI_add]
  rfl
theorem t_gets {σ : St} {R : RF} (h : HV σ R) (a1 a2 a3 a4 : Int32) : RH 166 [vI a1, vI a2, vI a3, vI a4] σ (vI (cond (twB R a1 a2 && inB a3 2 && inB a4 2) (nI (gt R (see R (fal R)) (cl a1) (cl a2) (cl a3) (cl a4))) (-1000))) := by
  have hbb := h.1.b
  refine RH_of (by rw [c_H_gets, h_areTwo h.1, cI_s, tv_ite, h_two, cI_s, tv_ite, h_two, cI_s, tv_ite, cond_and, cond_and]) (fun hq => ?_)
  unfold twB at hq
  simp only [Bool.and_eq_true] at hq
  obtain ⟨k1, g1, rfl⟩ := inB_e (by omega) hq.1.1.1.1
  obtain ⟨k2, g2, rfl⟩ := inB_e (by omega) hq.1.1.1.2
  obtain ⟨k3, g3, rfl⟩ := inB_e (by omega) hq.1.2
  obtain ⟨k4, g4, rfl⟩ := inB_e (by omega) hq.2
  rw [h_gain h g1 g2 (by omega) (by omega), cI_s, cl_n (by omega), cl_n (by omega), cl_n (by omega), cl_n (by omega)]
theorem t_rests {σ : St} {R : RF} (h : HV σ R) (a1 a2 : Int32) : RH 165 [vI a1, vI a2] σ (vI (cond (twB R a1 a2) (nI (bn (rsB R (see R (fal R)) (cl a1) (cl a2)) 4)) (-2))) := by
  have hbb := h.1.b
  refine RH_of (by rw [c_H_rests, h_areTwo h.1, cI_s, tv_ite]) (fun hq => ?_)
  unfold twB at hq
  simp only [Bool.and_eq_true] at hq
  obtain ⟨k1, g1, rfl⟩ := inB_e (by omega) hq.1.1
  obtain ⟨k2, g2, rfl⟩ := inB_e (by omega) hq.1.2
  rw [cl_n (by omega), cl_n (by omega)]
  refine (lpB (V := fun x j => Vv 165 0 17 [some (vR 88 0), some (vI (nI k1)), some (vI (nI k2)), some (vI x), some (vI (nI j)), none, none, none, none] [] σ) (P := rsB R (see R (fal R)) k1 k2) (n := 4) (by omega) (fun j x hj => ?_)).trans ?_
  · show Vv _ _ _ _ _ _ = cond _ (Vv _ _ _ _ _ _) (Vv _ _ _ _ _ _)
    have e4 : nI j < (4 : Int32) := nI_lt (b := 4) hj (by omega)
    have er : nI j &&& (1 : Int32) = nI (j % 2) := and1 (by omega)
    have ed : nI j >>> ((1 : Int32) &&& 31) = nI (j / 2) := by
      have := shr_n (x := j) (k := 1) (by omega) (by omega)
      exact this
    have em : ∀ z, z ≤ 1 → (1 : Int32) - nI z = nI (1 - z) := fun z hz => pk_sub (a := 1) hz
    have hx : j % 2 ≤ 1 := by omega
    have hy : j / 2 ≤ 1 := by omega
    have b1 := gt_le h.1.1 (see R (fal R)) k1 k2 (1 - j % 2) (j / 2)
    have b2 := gt_le h.1.1 (see R (fal R)) k1 k2 (j % 2) (j / 2)
    have b3 := gt_le h.1.1 (see R (fal R)) k2 k1 (1 - j / 2) (j % 2)
    have b4 := gt_le h.1.1 (see R (fal R)) k2 k1 (j / 2) (j % 2)
    rw [v_H_rests_17, if_pos e4, er, ed, v_H_rests_35, em _ hx, h_gain h g1 g2 (by omega) hy, cI_s, h_gain h g1 g2 hx hy, cI_s, le_lt (by omega) (by omega)]
    have h67 : ∀ z : Int32, Vv 165 0 67 [some (vR 88 0), some (vI (nI k1)), some (vI (nI k2)), some (vI x), some (vI (nI j)), some (vI (nI (j % 2))), some (vI (nI (j / 2))), some (vI z), none] [] σ = cond (decide (gt R (see R (fal R)) k2 k1 (j / 2) (j % 2) < gt R (see R (fal R)) k2 k1 (1 - j / 2) (j % 2))) (Vv 165 0 99 [some (vR 88 0), some (vI (nI k1)), some (vI (nI k2)), some (vI x), some (vI (nI j)), some (vI (nI (j % 2))), some (vI (nI (j / 2))), some (vI z), some (vI 1)] [] σ) (Vv 165 0 99 [some (vR 88 0), some (vI (nI k1)), some (vI (nI k2)), some (vI x), some (vI (nI j)), some (vI (nI (j % 2))), some (vI (nI (j / 2))), some (vI z), some (vI 0)] [] σ) := fun z => by
      rw [v_H_rests_67, em _ hy, h_gain h g2 g1 (by omega) hx, cI_s, h_gain h g2 g1 hy hx, cI_s, le_lt (by omega) (by omega)]
    rw [h67, h67, v_H_rests_99, v_H_rests_99, v_H_rests_99, v_H_rests_99, if_neg (show ¬ (1 : Int32) = 0 by decide), if_pos (show (0 : Int32) = 0 from rfl), nI_1]
    have hrs : rsB R (see R (fal R)) k1 k2 j = (!decide (gt R (see R (fal R)) k1 k2 (j % 2) (j / 2) < gt R (see R (fal R)) k1 k2 (1 - j % 2) (j / 2)) && !decide (gt R (see R (fal R)) k2 k1 (j / 2) (j % 2) < gt R (see R (fal R)) k2 k1 (1 - j / 2) (j % 2))) := by
      unfold rsB
      rw [← decide_not, ← decide_not, decide_eq_decide.mpr Nat.not_lt.symm, decide_eq_decide.mpr Nat.not_lt.symm]
    rw [hrs]
    cases decide (gt R (see R (fal R)) k1 k2 (j % 2) (j / 2) < gt R (see R (fal R)) k1 k2 (1 - j % 2) (j / 2)) <;> cases decide (gt R (see R (fal R)) k2 k1 (j / 2) (j % 2) < gt R (see R (fal R)) k2 k1 (1 - j / 2) (j % 2)) <;> rfl
  · have e4 : ¬ nI 4 < (4 : Int32) := by decide
    show Vv _ _ _ _ _ _ = _
    rw [v_H_rests_17, if_neg e4]
/-! lowest terms -/
theorem h_lowest (σ : St) {a b : Nat} (ha : a < 2 ^ 49) (hb : b < 2 ^ 49) (h0 : 0 < b) {w : Int32} (hw : inB w 2 = true) : Cc 203 0 [vL (lN a), vL (lN b), vI w] σ = some (some (vL (lN (lo a b w))), σ) := by
  rw [c_H_inLowestTerms]
  have hg : 0 < Nat.gcd a b := Nat.gcd_pos_of_pos_right a h0
  have hg2 : Nat.gcd a b ≤ b := Nat.le_of_dvd h0 (Nat.gcd_dvd_right a b)
  have hfin : ∀ x i : Nat, i ≤ 200 → x = Nat.gcd a b → Vv 203 0 9 [some (vL (lN a)), none, some (vL (lN b)), none, some (vI w), some (vL (lN x)), none, some (vL (lN 0)), none, some (vI (nI i)), none, none] [] σ = some (some (vL (lN (lo a b w))), σ) := fun x i hi hx => by
    subst hx
    have hz : ¬ lg_cmp (lN (Nat.gcd a b)) 0 = 0 := by rw [lg_eq0]; exact lN_n0 (by omega) hg
    have hz2 : lg_cmp (lN 0) 0 = 0 := by rw [lg_eq0]; rfl
    rw [v_H_inLowestTerms_9, if_pos hz2, if_neg hz, if_neg (lN_n0 (by omega) hg), if_neg (lN_n0 (by omega) hg), lN_d63 (by omega) (by omega) hg, lN_d63 (by omega) (by omega) hg, ite_self]
    rcases half_e hw with rfl | rfl
    · rw [if_pos q_0]; rfl
    · rw [if_neg (by decide)]; rfl
  have key : ∀ k x y i, y < 2 ^ k → i + 2 * k ≤ 199 → k ≤ 49 → x < 2 ^ 63 → Nat.gcd x y = Nat.gcd a b → Vv 203 0 9 [some (vL (lN a)), none, some (vL (lN b)), none, some (vI w), some (vL (lN x)), none, some (vL (lN y)), none, some (vI (nI i)), none, none] [] σ = some (some (vL (lN (lo a b w))), σ) := by
    intro k
    induction k with
    | zero =>
      intro x y i hy hi hk hx hgx
      have hy : y = 0 := by omega
      subst hy
      exact hfin x i (by omega) (by rw [← hgx, Nat.gcd_zero_right])
    | succ k ih =>
      intro x y i hy hi hk hx hgx
      by_cases y0 : y = 0
      · subst y0
        exact hfin x i (by omega) (by rw [← hgx, Nat.gcd_zero_right])
      · have hp : 2 ^ (k + 1) ≤ 2 ^ 49 := Nat.pow_le_pow_right (by omega) hk
        have h1 : x % y < y := Nat.mod_lt _ (by omega)
        have g1 : Nat.gcd y (x % y) = Nat.gcd a b := by rw [← hgx, Nat.gcd_comm x y, Nat.gcd_rec y x, Nat.gcd_comm]
        have e200 : ∀ j, j < 200 → nI j < (200 : Int32) := fun j hj => nI_lt (b := 200) hj (by omega)
        rw [v_H_inLowestTerms_9, if_pos (e200 i (by omega)), if_neg (by rw [lg_eq0]; exact lN_n0 (by omega) (by omega)), if_neg (lN_n0 (by omega) (by omega)), lN_r63 hx (by omega) (by omega), nI_1]
        by_cases z0 : x % y = 0
        · rw [z0]
          exact hfin y (i + 1) (by omega) (by rw [← g1, z0, Nat.gcd_zero_right])
        · have h3 : y % (x % y) < x % y := Nat.mod_lt _ (by omega)
          have h4 : y % (x % y) < 2 ^ k := by
            have h5 : y = x % y * (y / (x % y)) + y % (x % y) := (Nat.div_add_mod y (x % y)).symm
            have h6 : 1 ≤ y / (x % y) := (Nat.le_div_iff_mul_le (by omega)).mpr (by omega)
            have h7 : x % y * 1 ≤ x % y * (y / (x % y)) := Nat.mul_le_mul_left _ h6
            rw [Nat.pow_succ] at hy
            omega
          have g2 : Nat.gcd (x % y) (y % (x % y)) = Nat.gcd a b := by rw [← g1, Nat.gcd_comm y (x % y), Nat.gcd_rec (x % y) y, Nat.gcd_comm]
          rw [v_H_inLowestTerms_9, if_pos (e200 (i + 1) (by omega)), if_neg (by rw [lg_eq0]; exact lN_n0 (by omega) (by omega)), if_neg (lN_n0 (by omega) (by omega)), lN_r63 (by omega) (by omega) (by omega), nI_1]
          exact ih (x % y) (y % (x % y)) (i + 1 + 1) h4 (by omega) (by omega) (by omega) g2
  exact key 49 a b 0 hb (by omega) (by omega) (by omega) rfl
