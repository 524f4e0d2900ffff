/-! THE REFERENCE'S ANSWERS: years drawn, chance, shares -/
/-- the draws -/
def dn (s : Nat) : Nat → Nat
  | 0 => s
  | n + 1 => (1103515245 * dn s n + 12345) % 2147483648
def mgd (R : RF) (s y : Nat) : Bool := decide (y < yr R) && decide (dn s (y + 1) / 65536 % 10 < od R)
theorem dn_lt {s : Nat} (hs : s < 2 ^ 31) : ∀ n, dn s n < 2 ^ 31
  | 0 => hs
  | n + 1 => Nat.mod_lt _ (by decide)
/-- bits beyond a bound are none -/
theorem bn_cut (P : Nat → Bool) {n : Nat} : ∀ N, n ≤ N → bn (fun k => decide (k < n) && P k) N = bn P n := by
  intro N hN
  apply tb_ext
  intro k
  rw [bn_tb, bn_tb]
  by_cases h1 : k < n
  · rw [decide_eq_true h1, decide_eq_true (show k < N by omega)]; rfl
  · rw [decide_eq_false h1, Bool.false_and, Bool.and_false]
theorem l_draws {σ : St} {R : RF} (h : H0 σ R) {s : Nat} (hs : s < 2 ^ 31) (a : Int64) (h29 : gI σ 96 0 29 = 0) : Vv 358 0 14 [some (vR 96 0), some (vL a), none, some (vL (lN s)), none, some (vI 0)] [] σ = cV (Cc 270 0 [vR 96 0] (sI σ 96 0 29 (nI (bn (mgd R s) 12)))) (fun σ3 => some (none, σ3)) := by
  have hbb := h.b
  have hl := lpU (V := fun j => Vv 358 0 14 [some (vR 96 0), some (vL a), none, some (vL (lN (dn s j))), none, some (vI (nI j))] [] (sI σ 96 0 29 (nI (bn (mgd R s) j)))) (n := yr R) (fun j hj => by
    show Vv _ _ _ _ _ _ = Vv _ _ _ _ _ _
    have hH : H0 (sI σ 96 0 29 (nI (bn (mgd R s) j))) R := h.s rfl
    have hd := dn_lt hs j
    have hd1 := dn_lt hs (j + 1)
    have e1 : (1103515245 : Int64) * lN (dn s j) = lN (1103515245 * dn s j) := lN_mul 1103515245 (dn s j)
    have e2 : lN (1103515245 * dn s j) + (12345 : Int64) = lN (1103515245 * dn s j + 12345) := lN_add _ 12345
    have e3 : lN (1103515245 * dn s j + 12345) - lN (1103515245 * dn s j + 12345) / (2147483648 : Int64) * (2147483648 : Int64) = lN (dn s (j + 1)) := lN_r63 (b := 2147483648) (by omega) (by omega) (by omega)
    have e4 : lN (dn s (j + 1)) / (65536 : Int64) = lN (dn s (j + 1) / 65536) := lN_d63 (b := 65536) (by omega) (by omega) (by omega)
    have e5 : lN (dn s (j + 1) / 65536) - lN (dn s (j + 1) / 65536) / (10 : Int64) * (10 : Int64) = lN (dn s (j + 1) / 65536 % 10) := lN_r63 (b := 10) (by omega) (by omega) (by omega)
    have e6 : (lN (dn s (j + 1) / 65536 % 10) < lN (od R)) = (dn s (j + 1) / 65536 % 10 < od R) := propext (lN_lt (by omega) (by omega))
    rw [v_M_draws_14, cI_Y hH, if_pos (nI_lt hj (by omega)), if_neg (by decide), e1, e2, e3, v_M_draws_37, if_neg (by decide), if_neg (by decide), ixh2, hH.odds, nI_l (by omega), e4, e5, gI_sIs, sI_sI, sI_sI, or0, nI_1]
    have hm : mgd R s j = decide (dn s (j + 1) / 65536 % 10 < od R) := by unfold mgd; rw [decide_eq_true hj, Bool.true_and]
    simp only [lg_lt0, e6]
    by_cases hz : dn s (j + 1) / 65536 % 10 < od R
    · rw [if_pos hz, bn_or1 (by omega) (by rw [hm]; exact decide_eq_true hz)]
    · rw [if_neg hz, ← bn_or0 (by rw [hm]; exact decide_eq_false hz)])
  have e0 : sI σ 96 0 29 (nI (bn (mgd R s) 0)) = σ := by
    rw [sI_as]
    have : upd (gI σ 96 0) 29 (nI (bn (mgd R s) 0)) = gI σ 96 0 := by
      funext q
      unfold upd
      by_cases hq : q = 29
      · rw [if_pos hq, hq, h29]; rfl
      · rw [if_neg hq]
    rw [this, pI_id]
  have hl : Vv 358 0 14 [some (vR 96 0), some (vL a), none, some (vL (lN s)), none, some (vI (nI 0))] [] (sI σ 96 0 29 (nI (bn (mgd R s) 0))) = Vv 358 0 14 [some (vR 96 0), some (vL a), none, some (vL (lN (dn s (yr R)))), none, some (vI (nI (yr R)))] [] (sI σ 96 0 29 (nI (bn (mgd R s) (yr R)))) := hl
  rw [e0] at hl
  refine Eq.trans hl ?_
  have hH : H0 (sI σ 96 0 29 (nI (bn (mgd R s) (yr R)))) R := h.s rfl
  have e9 : bn (mgd R s) (yr R) = bn (mgd R s) 12 := by
    have h1 := bn_cut (mgd R s) (n := yr R) 12 (by omega)
    rw [← h1]
    exact bn_congr (fun k _ => by
      unfold mgd
      cases decide (k < yr R) <;> rfl)
  rw [v_M_draws_14, cI_Y hH, if_neg (nI_nlt (Nat.le_refl _) (by omega)), e9]
/-- the years drawn -/
def PD (R : RF) (s : Nat) : Nat → Nat → Nat := ps R (see R (fal R)) (lw R) (mgd R s) (lp R)
theorem s_draws {σ : St} {R : RF} (h : H0 σ R) {s : Nat} (hs : s < 2 ^ 31) : ∃ σ', Cc 358 0 [vR 96 0, vL (lN s)] σ = some (none, σ') ∧ Fr scM σ σ' ∧ YV σ' R (fal R) (PD R s) ∧ gI σ' 96 0 29 = nI (bn (mgd R s) 12) := by
  obtain ⟨σ1, c1, f1, h1, w1, m1, _, t1, s1⟩ := s_lays h
  have h2 : H0 (sI σ1 96 0 29 0) R := h1.s rfl
  have c2 := l_draws h2 hs (lN s) (gI_sIs _ _ _ _ _)
  rw [sI_sI] at c2
  have h3 : H0 (sI σ1 96 0 29 (nI (bn (mgd R s) 12))) R := h1.s rfl
  obtain ⟨σ4, c4, f4, a4⟩ := s_runs h3 (fl := fal R) (fun p hp => (gI_sIn (by decide)).trans (s1 p hp)) (law := lw R) h.b.2.2.2.2.2.2.2.1 ((gI_sIj (by decide)).trans w1) (mg := mgd R s) (gI_sIs _ _ _ _ _) (vp_told h.1) (fun l hl => (gI_sIn (by decide)).trans (t1 l hl))
  refine ⟨σ4, ?_, (f1.sI rfl).tr (ry_up f4), ⟨h3.fr f4 ry_sc, fun p hp => (f4.i rfl).trans ((gI_sIn (by decide)).trans (s1 p hp)), a4, vp_ps h.1 (vp_told h.1) _ _ _⟩, (f4.i rfl).trans (gI_sIs _ _ _ _ _)⟩
  rw [c_M_draws, c1, cV_s, c2, c4, cV_s]
def sdB (a : Int32) : Bool := inB a 2000000001
theorem r_isSeed (σ : St) (a : Int32) : Cc 359 0 [vI a] σ = some (some (vI (tv (sdB a))), σ) := by
  rw [c_M_isSeed, s_in, cI_s, retZ_tv, inB_k a 2000000000 2000000000 rfl]
  rfl
theorem m_drawn {σ : St} {R : RF} (h : H0 σ R) (a1 a2 : Int32) : RM 360 [vI a1, vI a2] σ (vI (cond (decide (0 < nN R) && sdB a1 && inB a2 2) (cond (decide (cl a2 = 0)) (nI (bn (mgd R (cl a1)) 12)) (nI (joyA R (see R (fal R)) (PD R (cl a1))))) (-2))) := by
  have h1 := thr_H h
  refine RM_of (by rw [c_M_drawn, r_isRoof h1, cI_s, tv_ite, r_isSeed, cI_s, tv_ite, r_isHalf, cI_s, tv_ite, cond_and, cond_and]) (thr_F σ) (fun hq => ?_)
  simp only [Bool.and_eq_true] at hq
  obtain ⟨k1, g1, rfl⟩ := inB_e (by omega) hq.1.2
  obtain ⟨σ3, c3, f3, v3, d3⟩ := s_draws h1 (s := k1) (by omega)
  refine ⟨σ3, ?_, f3⟩
  rw [nI_l (by omega), c3, cV_s, cl_n (by omega), s_joyAll v3, cI_s, d3]
  rcases half_e hq.2 with rfl | rfl
  · rw [if_pos q_0]; rfl
  · rw [if_neg (by decide)]; rfl
def lkB (R : RF) (s l k : Nat) : Bool := ex (fun y => see R (fal R) (PD R (s + k) y l) (lh R l)) (yr R + 1)
def nB (a : Int32) (n : Nat) : Bool := decide (1 ≤ a.toInt ∧ a.toInt ≤ n)
theorem nB_e {a : Int32} {n : Nat} (hn : n < 2 ^ 30) (h : nB a n = true) : ∃ k, 1 ≤ k ∧ k ≤ n ∧ a = nI k := by
  have h1 : 1 ≤ a.toInt ∧ a.toInt ≤ n := of_decide_eq_true h
  obtain ⟨k, h2, h3⟩ := inB_e (a := a) (n := n + 1) (by omega) (decide_eq_true (by omega))
  rw [h3, nI_toInt (by omega)] at h1
  exact ⟨k, by omega, by omega, h3⟩
theorem nB_64 (a : Int32) (k : Int64) (n : Nat) (hk : k.toInt = n) : decide ((1 : Int64) ≤ a.toInt64 ∧ a.toInt64 ≤ k) = nB a n := by
  unfold nB
  apply decide_eq_decide.mpr
  have e : (1 : Int64).toInt = 1 := rfl
  rw [Int64.le_iff_toInt_le, Int64.le_iff_toInt_le, Int32.toInt_toInt64, e, hk]
theorem m_luck {σ : St} {R : RF} (h : H0 σ R) (a1 a2 a3 : Int32) : RM 361 [vI a1, vI a2, vI a3] σ (vI (cond (sdB a1 && nB a2 20 && inB a3 (nL R)) (nI (cn (lkB R (cl a1) (cl a3)) (cl a2))) (-2))) := by
  have hbb := h.b
  have h1 := thr_H h
  refine RM_of (by rw [c_M_luck, r_isSeed, cI_s, tv_ite, s_in, nB_64 a2 20 20 rfl, cI_s, tv_ite, r_isMan h1, cI_s, tv_ite, cond_and, cond_and]) (thr_F σ) (fun hq => ?_)
  simp only [Bool.and_eq_true] at hq
  obtain ⟨k1, g1, rfl⟩ := inB_e (by omega) hq.1.1
  obtain ⟨k2, g2, g2', rfl⟩ := nB_e (by omega) hq.1.2
  obtain ⟨k3, g3, rfl⟩ := inB_e (by omega) hq.2
  rw [cl_n (by omega), cl_n (by omega), cl_n (by omega)]
  obtain ⟨σ3, c3, f3⟩ := lpH (R := R) (V := fun j σ => Vv 361 0 41 [some (vR 96 0), some (vI (nI k1)), some (vI (nI k2)), some (vI (nI k3)), some (vI (nI (cn (lkB R k1 k3) j))), some (vI (nI j))] [] σ) (n := k2) 0 (by omega) (fun j σ _ hj hσ => by
    obtain ⟨σ1, c1, f1, v1, -⟩ := s_draws hσ (s := k1 + j) (by omega)
    refine ⟨σ1, ?_, f1⟩
    show Vv _ _ _ _ _ _ = Vv _ _ _ _ _ _
    have e : cn (lkB R k1 k3) (j + 1) = cn (lkB R k1 k3) j + cond (lkB R k1 k3 j) 1 0 := rfl
    rw [v_M_luck_41, if_pos (nI_lt hj (by omega)), nI_l (by omega), nI_l (by omega), lN_add, c1, cV_s, s_drillOf v1 g3, cI_s, nI_1, e, ite_n]
    simp only [fI_no (show yr R + 1 < 2 ^ 31 by omega)]
    have el : ex (fun y => see R (fal R) (PD R (k1 + j) y k3) (lh R k3)) (yr R + 1) = lkB R k1 k3 j := rfl
    rw [el]
    cases lkB R k1 k3 j
    · simp only [decide_true, cond_true, cond_false, Int32.add_zero, Nat.add_zero]
    · simp only [Bool.true_eq_false, decide_false, cond_true, cond_false, nI_1]) _ h1
  refine ⟨σ3, ?_, f3⟩
  refine Eq.trans c3 ?_
  show Vv _ _ _ _ _ _ = _
  rw [v_M_luck_41, if_neg (nI_nlt (Nat.le_refl _) (by omega))]
/-! chance -/
theorem pc_le : ∀ y, y < 9 → (List.range (2 ^ y)).all (fun x => Nat.ble (pc x) y) = true := by decide +kernel
theorem pc_y {x y : Nat} (hy : y ≤ 8) (hx : x < 2 ^ y) : pc x ≤ y := Nat.le_of_ble_eq_true (List.all_eq_true.mp (pc_le y (by omega)) x (List.mem_range.mpr hx))
/-- one set of years in which they are moved: its weight -/
def wt1 (R : RF) (val : Nat → Nat) (l y : Nat) (x : Nat) : Nat := od R ^ pc x * (10 - od R) ^ (y - pc x) * val (ps R (see R (fal R)) (lw R) (Nat.testBit x) (lp R) y l)
def wgt (R : RF) (val : Nat → Nat) (l y : Nat) : Nat := sm (wt1 R val l y) (2 ^ y)
theorem wgt_le {R : RF} (h : WF R) {val : Nat → Nat} (hv : ∀ p, val p ≤ 693) (l : Nat) {y : Nat} (hy : y ≤ 8) : wgt R val l y ≤ 17740800000000 := by
  have h1 : ∀ x, x < 2 ^ y → wt1 R val l y x ≤ 100000000 * 693 := fun x hx => by
    have a1 : od R ^ pc x ≤ 10 ^ pc x := Nat.pow_le_pow_left h.1.2.2.2.2.2.2.2.2.1 _
    have a2 : (10 - od R) ^ (y - pc x) ≤ 10 ^ (y - pc x) := Nat.pow_le_pow_left (by omega) _
    have a3 := pc_y hy hx
    have a4 : 10 ^ pc x * 10 ^ (y - pc x) = 10 ^ y := by rw [← Nat.pow_add]; congr 1; omega
    have a5 : 10 ^ y ≤ 10 ^ 8 := Nat.pow_le_pow_right (by omega) hy
    have a6 := Nat.mul_le_mul a1 a2
    unfold wt1
    exact Nat.mul_le_mul (by rw [a4] at a6; omega) (hv _)
  have h2 := sm_le h1
  have h3 := pw_le hy
  have h4 : wgt R val l y ≤ 100000000 * 693 * 2 ^ y := h2
  have h5 : 100000000 * 693 * 2 ^ y ≤ 100000000 * 693 * 2 ^ 8 := Nat.mul_le_mul_left _ h3
  omega
/-- what a state has behind lays(), but for the years in which they move -/
def LY (σ : St) (R : RF) : Prop := H0 σ R ∧ SE σ R (fal R) ∧ gI σ 96 0 28 = nI (lw R) ∧ ∀ l, l < nL R → gI σ 3497 0 l = nI (lp R l)
def wtS (t _i j : Nat) : Bool := Nat.beq t 3505 || Nat.beq t 40377 || (Nat.beq t 96 && Nat.beq j 29)
theorem wt_sc (t i j : Nat) (h : wtS t i j = true) : scM t i j = true := by
  unfold wtS at h
  simp only [Bool.or_eq_true, Bool.and_eq_true] at h
  rcases h with (h | h) | h
  · rw [Nat.eq_of_beq_eq_true h]; rfl
  · rw [Nat.eq_of_beq_eq_true h]; rfl
  · rw [Nat.eq_of_beq_eq_true h.1, Nat.eq_of_beq_eq_true h.2]; rfl
theorem LY.f {σ σ' : St} {R : RF} (h : LY σ R) (hf : Fr wtS σ σ') : LY σ' R := ⟨h.1.fr hf wt_sc, fun p hp => (hf.i rfl).trans (h.2.1 p hp), (hf.i rfl).trans h.2.2.1, fun l hl => (hf.i rfl).trans (h.2.2.2 l hl)⟩
/-- what the reference multiplies with -/
def vlB (R : RF) (p : Int32) (q : Nat) : Nat := cond (decide (p = -1)) (wth R (see R (fal R) q)) (cond (decide (nI q = p)) 1 0)
theorem l_weight {R : RF} {l : Nat} (hl : l < nL R) (p : Int32) {y : Nat} (hy : y ≤ 8) (hyr : y ≤ yr R) : ∀ (k x : Nat) (σ : St), x + k = 2 ^ y → LY σ R → ∃ σ', Vv 354 0 10 [some (vR 96 0), some (vI (nI l)), some (vI p), some (vI (nI y)), some (vL (lN (sm (wt1 R (vlB R p) l y) x))), none, some (vI (nI x)), none] [] σ = some (some (vL (lN (wgt R (vlB R p) l y))), σ') ∧ Fr wtS σ σ'
  | 0, x, σ, hx, hL => by
    have hx : x = 2 ^ y := by omega
    subst hx
    have h8 := pw_le hy
    refine ⟨σ, ?_, Fr.rf⟩
    rw [v_M_weightOf_10, shl_1 _ (by omega), if_neg (nI_nlt (Nat.le_refl _) (by omega))]
    rfl
  | k + 1, x, σ, hx, hL => by
    have hbb := hL.1.b
    have h8 := pw_le hy
    have hx8 : x < 2 ^ 12 := by omega
    have hF0 : Fr wtS σ (sI σ 96 0 29 (nI x)) := Fr.rf.sI rfl
    have hL0 := hL.f hF0
    obtain ⟨σ2, c2, f2, a2⟩ := s_runs hL0.1 hL0.2.1 (law := lw R) (by omega) hL0.2.2.1 (mg := Nat.testBit x) (by rw [gI_sIs, ← bn_of hx8]) (vp_told hL.1.1) hL0.2.2.2
    have f2' : Fr wtS (sI σ 96 0 29 (nI x)) σ2 := f2.up (fun t i j hq => by
      cases hz : ryS t i j
      · rfl
      · have : wtS t i j = true := by
          unfold wtS
          unfold ryS at hz
          rw [hz]; rfl
        rw [this] at hq
        cases hq)
    have hL2 := hL0.f f2'
    have hv2 := vp_ps hL.1.1 (vp_told hL.1.1) (see R (fal R)) (lw R) (Nat.testBit x) y
    have hq2 := hv2.1 l hl
    have hpc := pc_y hy (show x < 2 ^ y by omega)
    have hpc8 : pc x ≤ 8 := cn_le _ _
    obtain ⟨σ3, c3, f3⟩ := l_weight hl p hy hyr k (x + 1) σ2 (by omega) hL2
    refine ⟨σ3, ?_, (hF0.tr f2').tr f3⟩
    have e10 : (10 : Int64) - lN (od R) = lN (10 - od R) := lN_sub (a := 10) (by omega)
    rw [v_M_weightOf_10, shl_1 _ (by omega), if_pos (nI_lt (show x < 2 ^ y by omega) (by omega)), c2, cV_s, six_n, nI_add, ix_nI (by omega) (by omega), a2 y (by omega) l hl, v_M_weightOf_41, ixh2, hL2.1.odds, nI_l (by omega), s_sizeOf σ2 (by omega), cI_s, s_power σ2 _ (pc x) 11 (by omega) (by omega), cL_s, ixh2, hL2.1.odds, nI_l (by omega), e10, s_sizeOf σ2 (by omega), cI_s, pk_sub hpc, s_power σ2 _ (y - pc x) 11 (by omega) (by omega), cL_s, s_placeW hL2.1 hL2.2.1 hq2, cI_s, lN_mul]
    have w1 := wth_le hL.1.1 (see R (fal R) (ps R (see R (fal R)) (lw R) (Nat.testBit x) (lp R) y l))
    rw [nI_l (by omega)]
    have es : sm (wt1 R (vlB R p) l y) (x + 1) = sm (wt1 R (vlB R p) l y) x + wt1 R (vlB R p) l y x := rfl
    rw [es] at c3
    have i1 : Int32.toInt64 1 = lN 1 := rfl
    have i0 : Int32.toInt64 0 = lN 0 := rfl
    rw [nI_1, i1, i0, lN_mul, lN_mul, lN_mul, lN_add, lN_add, lN_add]
    by_cases hp : p = -1
    · rw [if_pos hp]
      have ev : wt1 R (vlB R p) l y x = od R ^ pc x * (10 - od R) ^ (y - pc x) * wth R (see R (fal R) (ps R (see R (fal R)) (lw R) (Nat.testBit x) (lp R) y l)) := by
        unfold wt1 vlB
        rw [decide_eq_true hp]; rfl
      rw [ev] at c3
      exact c3
    · rw [if_neg hp]
      by_cases hp2 : nI (ps R (see R (fal R)) (lw R) (Nat.testBit x) (lp R) y l) = p
      · rw [if_pos hp2]
        have ev : wt1 R (vlB R p) l y x = od R ^ pc x * (10 - od R) ^ (y - pc x) * 1 := by
          unfold wt1 vlB
          rw [decide_eq_false hp, decide_eq_true hp2]; rfl
        rw [ev] at c3
        exact c3
      · rw [if_neg hp2]
        have ev : wt1 R (vlB R p) l y x = od R ^ pc x * (10 - od R) ^ (y - pc x) * 0 := by
          unfold wt1 vlB
          rw [decide_eq_false hp, decide_eq_false hp2]; rfl
        rw [ev] at c3
        exact c3
theorem s_weightOf {σ : St} {R : RF} (h : H0 σ R) {l : Nat} (hl : l < nL R) (p : Int32) {y : Nat} (hy : y ≤ 8) (hyr : y ≤ yr R) : ∃ σ', Cc 354 0 [vR 96 0, vI (nI l), vI p, vI (nI y)] σ = some (some (vL (lN (wgt R (vlB R p) l y))), σ') ∧ Fr scM σ σ' := by
  obtain ⟨σ1, c1, f1, h1, w1, m1, _, t1, s1⟩ := s_lays h
  obtain ⟨σ2, c2, f2⟩ := l_weight hl p hy hyr (2 ^ y) 0 σ1 (by omega) ⟨h1, s1, w1, t1⟩
  refine ⟨σ2, ?_, f1.tr (f2.up (fun t i j hq => ?_))⟩
  · rw [c_M_weightOf, c1, cV_s]
    exact c2
  · cases hz : wtS t i j
    · rfl
    · rw [wt_sc t i j hz] at hq
      cases hq
theorem vlB_le {R : RF} (h : WF R) (p : Int32) (q : Nat) : vlB R p q ≤ 693 := by
  unfold vlB
  have := wth_le h (see R (fal R) q)
  cases decide (p = -1)
  · show cond _ 1 0 ≤ _
    cases decide (nI q = p) <;> decide
  · exact this
def soB (R : RF) (a : Int32) : Bool := nB a (min 8 (yr R))
theorem r_isSoon {σ : St} {R : RF} (h : H0 σ R) (a : Int32) : Cc 355 0 [vR 96 0, vI a] σ = some (some (vI (tv (soB R a))), σ) := by
  have hbb := h.b
  have e : (if (8 : Int32) < nI (yr R) then (8 : Int32) else nI (yr R)) = nI (min 8 (yr R)) := by
    by_cases hz : 8 < yr R
    · rw [if_pos (show (8 : Int32) < nI (yr R) from nI_lt (a := 8) hz (by omega)), Nat.min_eq_left (by omega)]; rfl
    · rw [if_neg (show ¬ (8 : Int32) < nI (yr R) from nI_nlt (b := yr R) (a := 8) (by omega) (by omega)), Nat.min_eq_right (by omega)]
  rw [c_M_isSoon, cI_Y h, s_lessOf, cI_s, e, s_in, cI_s, retZ_tv, nB_64 a _ (min 8 (yr R)) (by rw [Int32.toInt_toInt64, nI_toInt (by omega)])]
  rfl
theorem so_e {R : RF} {a : Int32} (h : soB R a = true) : ∃ k, 1 ≤ k ∧ k ≤ 8 ∧ k ≤ yr R ∧ a = nI k := by
  obtain ⟨k, h1, h2, h3⟩ := nB_e (by omega) h
  exact ⟨k, h1, by omega, by omega, h3⟩
theorem ten_p {y : Nat} (hy : y ≤ 8) : 0 < 10 ^ y ∧ 10 ^ y ≤ 100000000 := ⟨Nat.pow_pos (by omega), (Nat.pow_le_pow_right (by omega) hy : 10 ^ y ≤ 10 ^ 8)⟩
theorem m_chance {σ : St} {R : RF} (h : H0 σ R) (a1 a2 a3 a4 : Int32) : RM 356 [vI a1, vI a2, vI a3, vI a4] σ (vI (cond (inB a1 (nL R) && inB a2 (nP R) && soB R a3 && inB a4 2) (nI (lo (wgt R (vlB R a2) (cl a1) (cl a3)) (10 ^ cl a3) a4)) (-2))) := by
  have hbb := h.b
  have h1 := thr_H h
  refine RM_of (by rw [c_M_chance, r_isMan h1, cI_s, tv_ite, r_isPlace h1, cI_s, tv_ite, r_isSoon h1, cI_s, tv_ite, r_isHalf, cI_s, tv_ite, cond_and, cond_and, cond_and]) (thr_F σ) (fun hq => ?_)
  simp only [Bool.and_eq_true] at hq
  obtain ⟨k1, g1, rfl⟩ := inB_e (by omega) hq.1.1.1
  obtain ⟨k3, g3, g4, g5, rfl⟩ := so_e hq.1.2
  obtain ⟨σ3, c3, f3⟩ := s_weightOf h1 g1 a2 g4 g5
  refine ⟨σ3, ?_, f3⟩
  have hw := wgt_le h.1 (vlB_le h.1 a2) k1 g4
  have ht := ten_p g4
  have e10 : Cc 353 12 [vL 10, vI (nI k3)] σ3 = some (some (vL (lN (10 ^ k3))), σ3) := s_power σ3 10 k3 11 (by omega) (by omega)
  rw [c3, cL_s, e10, cL_s, s_part σ3 (by omega) (by omega) ht.1 hq.2, cL_s, lN_i, cl_n (by omega), cl_n (by omega)]
theorem m_mean {σ : St} {R : RF} (h : H0 σ R) (a1 a2 a3 : Int32) : RM 357 [vI a1, vI a2, vI a3] σ (vL (cond (inB a1 (nL R) && soB R a2 && inB a3 2) (lN (lo (wgt R (vlB R (-1)) (cl a1) (cl a2)) (10 ^ cl a2) a3)) (-2))) := by
  have hbb := h.b
  have h1 := thr_H h
  have hc : Cc 357 0 [vR 96 0, vI a1, vI a2, vI a3] σ = cond (inB a1 (nL R) && soB R a2 && inB a3 2) (cL (Cc 354 0 [vR 96 0, vI a1, vI (-1), vI a2] (sI σ 96 0 0 0)) (fun x8 σ7 => cL (Cc 353 12 [vL 10, vI a2] σ7) (fun x10 σ9 => cL (Cc 328 0 [vL x8, vL x10, vI a3] σ9) (fun x12 σ11 => some (some (vL x12), σ11))))) (some (some (vL (-2)), sI σ 96 0 0 0)) := by
    rw [c_M_mean, r_isMan h1, cI_s, tv_ite, r_isSoon h1, cI_s, tv_ite, r_isHalf, cI_s, tv_ite, cond_and, cond_and]
  cases hb : inB a1 (nL R) && soB R a2 && inB a3 2
  · rw [hb] at hc
    exact ⟨_, hc, thr_F σ⟩
  · rw [hb] at hc
    have hq := hb
    simp only [Bool.and_eq_true] at hq
    obtain ⟨k1, g1, rfl⟩ := inB_e (by omega) hq.1.1
    obtain ⟨k3, g3, g4, g5, rfl⟩ := so_e hq.1.2
    obtain ⟨σ3, c3, f3⟩ := s_weightOf h1 g1 (-1) g4 g5
    have hw := wgt_le h.1 (vlB_le h.1 (-1)) k1 g4
    have ht := ten_p g4
    have e10 : Cc 353 12 [vL 10, vI (nI k3)] σ3 = some (some (vL (lN (10 ^ k3))), σ3) := s_power σ3 10 k3 11 (by omega) (by omega)
    refine ⟨σ3, hc.trans ?_, (thr_F σ).tr f3⟩
    rw [cond_true, c3, cL_s, e10, cL_s, s_part σ3 (by omega) (by omega) ht.1 hq.2, cL_s, cl_n (by omega), cl_n (by omega)]
    rfl
