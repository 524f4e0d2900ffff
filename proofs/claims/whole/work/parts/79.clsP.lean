/-! THE CLASS: chance, mean -/
/-- what a branch of k years more adds to place p -/
def bw (R : RF) (l p : Nat) : Nat → Nat → (Nat → Nat) → Nat → Nat
  | 0, _, f, w => w * cond (decide (f l = p)) 1 0
  | k + 1, j, f, w => bw R l p k (j + 1) (exc R (j + 1) f) (w * (10 - od R)) + bw R l p k (j + 1) (exc R (j + 1) (mv R (see R (fal R)) (lw R) f)) (w * od R)
theorem bw_0 (R : RF) (l p : Nat) : ∀ k j f, bw R l p k j f 0 = 0
  | 0, _, f => by
    show 0 * _ = 0
    rw [Nat.zero_mul]
  | k + 1, j, f => by
    show bw R l p k _ _ (0 * _) + bw R l p k _ _ (0 * _) = 0
    rw [Nat.zero_mul, Nat.zero_mul, bw_0 R l p k, bw_0 R l p k]
def bwS (j t i _j : Nat) : Bool := Nat.beq t 3346 || (Nat.beq t 3289 && Nat.ble (14 + j) i)
theorem bw_sc {j : Nat} {σ σ' : St} (h : Fr (bwS j) σ σ') : Fr scC σ σ' := h.up (fun t i' j' hz => by
  cases hw : bwS j t i' j'
  · rfl
  · unfold bwS at hw
    simp only [Bool.or_eq_true, Bool.and_eq_true] at hw
    rcases hw with hw | hw
    · rw [Nat.eq_of_beq_eq_true hw] at hz
      cases hz
    · rw [Nat.eq_of_beq_eq_true hw.1, scC_spot, Nat.ble_eq.mpr (show 13 ≤ i' by have := Nat.le_of_ble_eq_true hw.2; omega)] at hz
      cases hz)
theorem bw_up {j : Nat} {σ σ' : St} (h : Fr (bwS (j + 1)) σ σ') : Fr (bwS j) σ σ' := h.up (fun t i' j' hz => by
  cases hw : bwS (j + 1) t i' j'
  · rfl
  · unfold bwS at hw hz
    simp only [Bool.or_eq_true, Bool.and_eq_true] at hw
    rcases hw with hw | hw
    · rw [hw] at hz
      cases hz
    · rw [hw.1, Nat.ble_eq.mpr (show 14 + j ≤ i' by have := Nat.le_of_ble_eq_true hw.2; omega)] at hz
      simp at hz)
theorem row_bw {j : Nat} {σ σ' : St} (h : Fr (rowS (13 * 1 + (j + 1))) σ σ') : Fr (bwS j) σ σ' := h.up (fun t i' j' hz => by
  cases hw : rowS (13 * 1 + (j + 1)) t i' j'
  · rfl
  · unfold rowS at hw
    rw [Bool.and_eq_true] at hw
    unfold bwS at hz
    rw [hw.1, Nat.eq_of_beq_eq_true hw.2, Nat.ble_eq.mpr (show 14 + j ≤ 13 * 1 + (j + 1) by omega)] at hz
    simp at hz)
theorem RW_bw {σ σ' : St} {R : RF} {j : Nat} {f : Nat → Nat} (h : RW σ R (13 * 1 + j) f) (hf : Fr (bwS j) σ σ') : RW σ' R (13 * 1 + j) f := fun l hl => (hf.i (by
  show (false || (true && Nat.ble (14 + j) (13 * 1 + j))) = false
  cases hz : Nat.ble (14 + j) (13 * 1 + j)
  · rfl
  · have := Nat.le_of_ble_eq_true hz
    exfalso
    omega)).trans (h l hl)
theorem row_gL {q : Nat} {σ σ' : St} (h : Fr (rowS q) σ σ') (p : Nat) : gL σ' 3346 0 p = gL σ 3346 0 p := h.l rfl
theorem k_addWeight {σ : St} {q : Nat} (hq : q < 6) (w : Int64) : Cc 20 0 [vR 16 0, vI (nI q), vL w] σ = some (none, sL σ 3346 0 q (gL σ 3346 0 q + w)) := by
  have e6 : nI q < (6 : Int32) := nI_lt (b := 6) hq (by omega)
  rw [c_Chances_addWeight, if_neg (nI_pos (by omega)), if_pos e6, ix_nI hq (by omega), ix_nI hq (by omega)]
theorem k_branch {R : RF} {l : Nat} (hl : l < nL R) {y : Nat} (hy : y ≤ 8) (hyr : y ≤ yr R) : ∀ (k j rq w : Nat) (f : Nat → Nat) (σ : St), j + k = y → k < rq → w ≤ 10 ^ j → HV σ R → RW σ R (13 * 1 + j) f → VP R f →
    ∃ σ', Cc 19 rq [vR 16 0, vI (nI l), vI (nI j), vI (nI y), vL (lN w)] σ = some (none, σ') ∧ Fr (bwS j) σ σ' ∧ ∀ p, p < 6 → gL σ' 3346 0 p = gL σ 3346 0 p + lN (bw R l p k j f w)
  | _, _, 0, _, _, _, _, hr, _, _, _, _ => absurd hr (by omega)
  | k, j, rq + 1, 0, f, σ, hj, hr, hw, h, hrow, hv => by
    refine ⟨σ, ?_, Fr.rf, fun p _ => ?_⟩
    · rw [c_Chances_branch, if_pos (show lg_cmp (lN 0) 0 = 0 by rw [lg_eq0]; rfl)]
    · rw [bw_0, lN_0, Int64.add_zero]
  | 0, j, rq + 1, w + 1, f, σ, hj, hr, hw, h, hrow, hv => by
    have hbb := h.1.b
    have h10 := (ten_p (y := j) (by omega)).2
    have hfl := hv.1 l hl
    have hz : ¬ lg_cmp (lN (w + 1)) 0 = 0 := by rw [lg_eq0]; exact lN_n0 (by omega) (by omega)
    have hsp : Cc 35 0 [vR 24 1, vI (nI l), vI (nI j)] σ = some (some (vI (nI (f l))), σ) := by
      have e12 : nI j ≤ (12 : Int32) := nI_le (b := 12) (by omega) (by omega)
      rw [c_Course_spot, if_neg (nI_pos (by omega)), if_pos e12, if_neg (nI_pos (by omega)), if_pos (lt6 (by omega)), if_neg (by decide), ix_nI (by omega) (by omega), ix_nI (by omega) (by omega), hrow l hl]
    refine ⟨sL σ 3346 0 (f l) (gL σ 3346 0 (f l) + lN (w + 1)), ?_, ?_, fun p hp => ?_⟩
    · rw [c_Chances_branch, if_neg hz, if_neg (nI_nlt (by omega) (by omega)), hsp, cI_s, k_addWeight (by omega), cV_s]
    · exact Fr.rf.sL rfl
    · rw [gL_sL]
      by_cases hpf : f l = p
      · rw [if_pos ⟨rfl, rfl, hpf.symm⟩, hpf]
        show _ = _ + lN ((w + 1) * cond (decide (f l = p)) 1 0)
        rw [decide_eq_true hpf, cond_true, Nat.mul_one]
      · rw [if_neg (fun z => hpf z.2.2.symm)]
        show _ = _ + lN ((w + 1) * cond (decide (f l = p)) 1 0)
        rw [decide_eq_false hpf, cond_false, Nat.mul_zero, lN_0, Int64.add_zero]
  | k + 1, j, rq + 1, w + 1, f, σ, hj, hr, hw, h, hrow, hv => by
    have hbb := h.1.b
    have h10 := (ten_p (y := j) (by omega)).2
    have hz : ¬ lg_cmp (lN (w + 1)) 0 = 0 := by rw [lg_eq0]; exact lN_n0 (by omega) (by omega)
    obtain ⟨σ1, c1, f1, r1⟩ := k_stayOn h.1 hrow (show j < 12 by omega)
    have h1 := HV_sc h (bw_sc (row_bw f1))
    have c2 := k_exchangeIn h1.1 r1 (by omega)
    have f2 : Fr (rowS (13 * 1 + (j + 1))) σ1 (rwS σ1 (13 * 1 + (j + 1)) (nL R) (exc R (j + 1) f)) := rwS_F
    have r2 : RW (rwS σ1 (13 * 1 + (j + 1)) (nL R) (exc R (j + 1) f)) R (13 * 1 + (j + 1)) (exc R (j + 1) f) := rwS_RW
    generalize rwS σ1 (13 * 1 + (j + 1)) (nL R) (exc R (j + 1) f) = σ2 at c2 f2 r2
    have h2 := HV_sc h1 (bw_sc (row_bw f2))
    have hw1 : (w + 1) * (10 - od R) ≤ 10 ^ (j + 1) := Nat.pow_succ 10 j ▸ Nat.mul_le_mul hw (by omega)
    have hw2 : (w + 1) * od R ≤ 10 ^ (j + 1) := Nat.pow_succ 10 j ▸ Nat.mul_le_mul hw (by omega)
    obtain ⟨σ3, c3, f3, a3⟩ := k_branch hl hy hyr k (j + 1) rq ((w + 1) * (10 - od R)) _ σ2 (by omega) (by omega) hw1 h2 r2 (vp_exc h.1.1 hv (j + 1))
    have F3 := ((row_bw f1).tr (row_bw f2)).tr (bw_up f3)
    have h3 := HV_sc h (bw_sc F3)
    obtain ⟨σ4, c4, f4, r4⟩ := k_moveOn (i := 1) h3.1 (fl := fal R) h3.2.1 (RW_bw hrow F3) hv (show j < 12 by omega) (law := lw R) (by omega)
    have h4 := HV_sc h3 (bw_sc (row_bw f4))
    have c5 := k_exchangeIn h4.1 r4 (by omega)
    have f5 : Fr (rowS (13 * 1 + (j + 1))) σ4 (rwS σ4 (13 * 1 + (j + 1)) (nL R) (exc R (j + 1) (mv R (see R (fal R)) (lw R) f))) := rwS_F
    have r5 : RW (rwS σ4 (13 * 1 + (j + 1)) (nL R) (exc R (j + 1) (mv R (see R (fal R)) (lw R) f))) R (13 * 1 + (j + 1)) (exc R (j + 1) (mv R (see R (fal R)) (lw R) f)) := rwS_RW
    generalize rwS σ4 (13 * 1 + (j + 1)) (nL R) (exc R (j + 1) (mv R (see R (fal R)) (lw R) f)) = σ5 at c5 f5 r5
    have h5 := HV_sc h4 (bw_sc (row_bw f5))
    obtain ⟨σ6, c6, f6, a6⟩ := k_branch hl hy hyr k (j + 1) rq ((w + 1) * od R) _ σ5 (by omega) (by omega) hw2 h5 r5 (vp_exc h.1.1 (vp_mv h.1.1 hv _ _) (j + 1))
    refine ⟨σ6, ?_, ((F3.tr (row_bw f4)).tr (row_bw f5)).tr (bw_up f6), fun p hp => ?_⟩
    · have e10 : (10 : Int32) - nI (od R) = nI (10 - od R) := pk_sub (a := 10) (by omega)
      rw [c_Chances_branch, if_neg hz, if_pos (nI_lt (show j < y by omega) (by omega)), c1, cV_s, nI_1, c2, cV_s, h2.1.odds, e10, nI_l (by omega), lN_mul, c3, cV_s, h3.1.law, c4, cV_s, c5, cV_s, h5.1.odds, nI_l (by omega), lN_mul, c6, cV_s]
    · rw [a6 p hp, row_gL f5, row_gL f4, a3 p hp, row_gL f2, row_gL f1, Int64.add_assoc, lN_add]
      rfl
/-! the branches are the sets of years -/
theorem sm_2 (f : Nat → Nat) : ∀ n, sm f (2 * n) = sm (fun z => f (2 * z)) n + sm (fun z => f (2 * z + 1)) n
  | 0 => rfl
  | n + 1 => by
    show sm f (2 * n) + f (2 * n) + f (2 * n + 1) = (sm (fun z => f (2 * z)) n + f (2 * n)) + (sm (fun z => f (2 * z + 1)) n + f (2 * n + 1))
    rw [sm_2 f n]
    omega
theorem ps_c (R : RF) (s : Nat → Nat → Bool) (law : Nat) {m1 m2 : Nat → Bool} (f : Nat → Nat) : ∀ y, (∀ z, z < y → m1 z = m2 z) → ps R s law m1 f y = ps R s law m2 f y
  | 0, _ => rfl
  | y + 1, h => by
    show exc R (y + 1) (cond (m1 y) (mv R s law (ps R s law m1 f y)) (ps R s law m1 f y)) = exc R (y + 1) (cond (m2 y) (mv R s law (ps R s law m2 f y)) (ps R s law m2 f y))
    rw [h y (by omega), ps_c R s law f y (fun z hz => h z (by omega))]
theorem pc_up : ∀ j, j < 8 → (List.range (2 ^ j)).all (fun x => Nat.beq (pc (x + 2 ^ j)) (pc x + 1)) = true := by decide +kernel
theorem pc_a {j x : Nat} (hj : j < 8) (hx : x < 2 ^ j) : pc (x + 2 ^ j) = pc x + 1 := Nat.eq_of_beq_eq_true (List.all_eq_true.mp (pc_up j hj) x (List.mem_range.mpr hx))
theorem tb_lo {j x : Nat} (hx : x < 2 ^ j) : Nat.testBit x j = false := Nat.testBit_lt_two_pow hx
theorem tb_hi {j x : Nat} (hx : x < 2 ^ j) : Nat.testBit (x + 2 ^ j) j = true := by
  rw [Nat.add_comm, Nat.testBit_two_pow_add_eq, tb_lo hx]; rfl
theorem tb_same {j x z : Nat} (hz : z < j) : Nat.testBit (x + 2 ^ j) z = Nat.testBit x z := by
  rw [Nat.add_comm, Nat.testBit_two_pow_add_gt hz]
/-- the weight of the set x in the first j years -/
def cw (R : RF) (x j : Nat) : Nat := od R ^ pc x * (10 - od R) ^ (j - pc x)
def tmB (R : RF) (l p y x : Nat) : Nat := cw R x y * cond (decide (ps R (see R (fal R)) (lw R) (Nat.testBit x) (lp R) y l = p)) 1 0
theorem bw_sum (R : RF) (l p : Nat) {y : Nat} (hy : y ≤ 8) : ∀ (k j x : Nat), j + k = y → x < 2 ^ j → bw R l p k j (ps R (see R (fal R)) (lw R) (Nat.testBit x) (lp R) j) (cw R x j) = sm (fun z => tmB R l p y (x + 2 ^ j * z)) (2 ^ k)
  | 0, j, x, hj, hx => by
    have hj : j = y := by omega
    subst hj
    show cw R x j * _ = 0 + tmB R l p j (x + 2 ^ j * 0)
    rw [Nat.zero_add, Nat.mul_zero, Nat.add_zero]
    rfl
  | k + 1, j, x, hj, hx => by
    have hpc := pc_y (y := j) (by omega) hx
    have e1 : cw R x j * (10 - od R) = cw R x (j + 1) := by
      unfold cw
      rw [show j + 1 - pc x = j - pc x + 1 by omega, Nat.pow_succ, Nat.mul_assoc]
    have e2 : cw R x j * od R = cw R (x + 2 ^ j) (j + 1) := by
      unfold cw
      rw [pc_a (by omega) hx, show j + 1 - (pc x + 1) = j - pc x by omega, Nat.pow_succ, Nat.mul_right_comm]
    have p1 : exc R (j + 1) (ps R (see R (fal R)) (lw R) (Nat.testBit x) (lp R) j) = ps R (see R (fal R)) (lw R) (Nat.testBit x) (lp R) (j + 1) := by
      show _ = exc R (j + 1) (cond (Nat.testBit x j) _ _)
      rw [tb_lo hx]; rfl
    have p2 : exc R (j + 1) (mv R (see R (fal R)) (lw R) (ps R (see R (fal R)) (lw R) (Nat.testBit x) (lp R) j)) = ps R (see R (fal R)) (lw R) (Nat.testBit (x + 2 ^ j)) (lp R) (j + 1) := by
      show _ = exc R (j + 1) (cond (Nat.testBit (x + 2 ^ j) j) (mv R (see R (fal R)) (lw R) (ps R (see R (fal R)) (lw R) (Nat.testBit (x + 2 ^ j)) (lp R) j)) _)
      rw [tb_hi hx, cond_true, ps_c R _ _ (m1 := Nat.testBit (x + 2 ^ j)) (m2 := Nat.testBit x) _ j (fun z hz => tb_same hz)]
    have x1 : x < 2 ^ (j + 1) := by rw [Nat.pow_succ]; omega
    have x2 : x + 2 ^ j < 2 ^ (j + 1) := by rw [Nat.pow_succ]; omega
    show bw R l p k (j + 1) _ (cw R x j * (10 - od R)) + bw R l p k (j + 1) _ (cw R x j * od R) = _
    rw [e1, e2, p1, p2, bw_sum R l p hy k (j + 1) x (by omega) x1, bw_sum R l p hy k (j + 1) (x + 2 ^ j) (by omega) x2, Nat.pow_succ 2 k, Nat.mul_comm (2 ^ k) 2, sm_2]
    congr 1
    · refine sm_congr (fun z _ => ?_)
      rw [Nat.pow_succ, Nat.mul_assoc]
    · refine sm_congr (fun z _ => ?_)
      show tmB R l p y (x + 2 ^ j + 2 ^ (j + 1) * z) = tmB R l p y (x + 2 ^ j * (2 * z + 1))
      rw [Nat.pow_succ, Nat.mul_assoc, Nat.mul_add, Nat.mul_one]
      congr 1
      omega
/-- the weight of place p -/
def wpl (R : RF) (l y p : Nat) : Nat := sm (tmB R l p y) (2 ^ y)
theorem bw_all (R : RF) (l p : Nat) {y : Nat} (hy : y ≤ 8) : bw R l p y 0 (exc R 0 (lp R)) 1 = wpl R l y p := by
  have e := bw_sum R l p hy y 0 0 (by omega) (by decide)
  have hc : cw R 0 0 = 1 := by
    have h0 : pc 0 = 0 := by decide
    unfold cw
    rw [h0]
    rfl
  rw [hc] at e
  refine Eq.trans e (sm_congr (fun z _ => ?_))
  rw [Nat.pow_zero, Nat.one_mul, Nat.zero_add]
theorem nI_nm {p : Nat} (hp : p < 2 ^ 31) : ¬ nI p = -1 := fun z => by
  have h1 := nI_toInt hp
  rw [z, show (-1 : Int32).toInt = -1 from rfl] at h1
  omega
theorem wpl_v {R : RF} {l y p : Nat} (hp : p < nP R) (h : WF R) (hl : l < nL R) : wgt R (vlB R (nI p)) l y = wpl R l y p := by
  have hb := h.1.1
  refine sm_congr (fun x _ => ?_)
  have hv := (vp_ps h (vp_told h) (see R (fal R)) (lw R) (Nat.testBit x) y).1 l hl
  show cw R x y * _ = cw R x y * _
  congr 1
  unfold vlB
  rw [decide_eq_false (nI_nm (by omega)), cond_false, decide_eq_decide.mpr (nI_eq (by omega) (by omega))]
theorem sm_addf (f g : Nat → Nat) : ∀ n, sm (fun k => f k + g k) n = sm f n + sm g n
  | 0 => rfl
  | n + 1 => by
    show sm (fun k => f k + g k) n + (f n + g n) = (sm f n + f n) + (sm g n + g n)
    rw [sm_addf f g n]
    omega
theorem sm_z (n : Nat) : sm (fun _ => 0) n = 0 := by
  induction n with
  | zero => rfl
  | succ n ih => exact ih
theorem sm_one {c q : Nat} {v : Nat → Nat} : ∀ {n : Nat}, q < n → sm (fun p => c * cond (decide (q = p)) 1 0 * v p) n = c * v q
  | n + 1, hq => by
    show sm (fun p => c * cond (decide (q = p)) 1 0 * v p) n + c * cond (decide (q = n)) 1 0 * v n = c * v q
    by_cases hqn : q = n
    · have hz : sm (fun p => c * cond (decide (q = p)) 1 0 * v p) n = 0 := (sm_congr (fun p hp => by
        show c * cond (decide (q = p)) 1 0 * v p = 0
        rw [decide_eq_false (by omega), cond_false, Nat.mul_zero, Nat.zero_mul])).trans (sm_z n)
      rw [hz, decide_eq_true hqn, cond_true, Nat.mul_one, Nat.zero_add, hqn]
    · rw [sm_one (show q < n by omega), decide_eq_false hqn, cond_false, Nat.mul_zero, Nat.zero_mul, Nat.add_zero]
theorem sm_swp {c pos v : Nat → Nat} {n : Nat} : ∀ N, (∀ x, x < N → pos x < n) → sm (fun p => sm (fun x => c x * cond (decide (pos x = p)) 1 0) N * v p) n = sm (fun x => c x * v (pos x)) N
  | 0, _ => (sm_congr (fun p _ => by
    show 0 * v p = 0
    rw [Nat.zero_mul])).trans (sm_z n)
  | N + 1, h => by
    show sm (fun p => (sm (fun x => c x * cond (decide (pos x = p)) 1 0) N + c N * cond (decide (pos N = p)) 1 0) * v p) n = sm (fun x => c x * v (pos x)) N + c N * v (pos N)
    rw [← sm_swp N (fun x hx => h x (by omega)), ← sm_one (c := c N) (v := v) (h N (by omega)), ← sm_addf]
    refine sm_congr (fun p _ => ?_)
    rw [Nat.add_mul]
theorem wpl_m {R : RF} {l y : Nat} (h : WF R) (hl : l < nL R) : sm (fun p => wpl R l y p * wth R (see R (fal R) p)) (nP R) = wgt R (vlB R (-1)) l y := by
  refine (sm_swp (c := fun x => cw R x y) (pos := fun x => ps R (see R (fal R)) (lw R) (Nat.testBit x) (lp R) y l) (v := fun p => wth R (see R (fal R) p)) (n := nP R) (2 ^ y) (fun x _ => (vp_ps h (vp_told h) (see R (fal R)) (lw R) (Nat.testBit x) y).1 l hl)).trans (sm_congr (fun x _ => ?_))
  rfl
/-! chance, mean -/
theorem k_tenTo (σ : St) {y : Nat} (hy : y ≤ 8) : Cc 17 0 [vI (nI y)] σ = some (some (vL (lN (10 ^ y))), σ) := by
  rw [c_Chances_tenTo]
  refine (lpU (V := fun j => Vv 17 0 4 [some (vI (nI y)), some (vL (lN (10 ^ j))), none, some (vI (nI j))] [] σ) (n := y) (fun j hj => ?_)).trans ?_
  · show Vv _ _ _ _ _ _ = Vv _ _ _ _ _ _
    rw [v_Chances_tenTo_4, if_pos (nI_lt hj (by omega)), if_pos (show nI j < (8 : Int32) from nI_lt (b := 8) (by omega) (by omega)), nI_1, show (10 : Int64) = lN 10 from rfl, lN_mul, ← Nat.pow_succ]
  · show Vv _ _ _ _ _ _ = _
    rw [v_Chances_tenTo_4, if_neg (nI_nlt (Nat.le_refl _) (by omega))]
theorem wz_1 (σ : St) (l1 l2 : Int32) {j : Nat} (hj : j < 6) : Vv 18 0 2 [some (vR 16 0), some (vI l1), some (vI l2), some (vI (nI j))] [] σ = Vv 18 0 2 [some (vR 16 0), some (vI l1), some (vI l2), some (vI (nI (j + 1)))] [] (sL σ 3346 0 j 0) := by
  rw [v_Chances_weigh_2, if_pos (lt6 hj), ix_nI hj (by omega), nI_1]
theorem k_weigh {σ : St} {R : RF} (h : HV σ R) {l y : Nat} (hl : l < nL R) (hy : y ≤ 8) (hyr : y ≤ yr R) : ∃ σ', Cc 18 0 [vR 16 0, vI (nI l), vI (nI y)] σ = some (none, σ') ∧ Fr scC σ σ' ∧ ∀ p, p < 6 → gL σ' 3346 0 p = lN (wpl R l y p) := by
  have hbb := h.1.b
  rw [c_Chances_weigh]
  have hz := (((((wz_1 σ (nI l) (nI y) (j := 0) (by omega)).trans (wz_1 _ _ _ (j := 1) (by omega))).trans (wz_1 _ _ _ (j := 2) (by omega))).trans (wz_1 _ _ _ (j := 3) (by omega))).trans (wz_1 _ _ _ (j := 4) (by omega))).trans (wz_1 _ _ _ (j := 5) (by omega))
  have F0 : Fr (bwS 0) σ (sL (sL (sL (sL (sL (sL σ 3346 0 0 0) 3346 0 1 0) 3346 0 2 0) 3346 0 3 0) 3346 0 4 0) 3346 0 5 0) := (((((Fr.rf.sL rfl).sL rfl).sL rfl).sL rfl).sL rfl).sL rfl
  have G0 : ∀ p, p < 6 → gL (sL (sL (sL (sL (sL (sL σ 3346 0 0 0) 3346 0 1 0) 3346 0 2 0) 3346 0 3 0) 3346 0 4 0) 3346 0 5 0) 3346 0 p = 0 := fun p hp => by
    have hc : p = 0 ∨ p = 1 ∨ p = 2 ∨ p = 3 ∨ p = 4 ∨ p = 5 := by omega
    rcases hc with rfl | rfl | rfl | rfl | rfl | rfl <;> rfl
  generalize sL (sL (sL (sL (sL (sL σ 3346 0 0 0) 3346 0 1 0) 3346 0 2 0) 3346 0 3 0) 3346 0 4 0) 3346 0 5 0 = σ0 at hz F0 G0
  have h0 := HV_sc h (bw_sc F0)
  have f1 : Fr (rowS (13 * 1 + 0)) σ0 (rwS σ0 (13 * 1 + 0) (nL R) (lp R)) := rwS_F
  have r1 : RW (rwS σ0 (13 * 1 + 0) (nL R) (lp R)) R (13 * 1 + 0) (lp R) := rwS_RW
  have c1 := k_startAsTold h0.1 1
  generalize rwS σ0 (13 * 1 + 0) (nL R) (lp R) = σ1 at f1 r1 c1
  have g1 := cr_sc (i := 1) (by omega) (cr_up (by omega) (by omega) f1)
  have h1 := HV_sc h0 g1
  have c2 := k_exchangeIn h1.1 r1 (by omega)
  have f2 : Fr (rowS (13 * 1 + 0)) σ1 (rwS σ1 (13 * 1 + 0) (nL R) (exc R 0 (lp R))) := rwS_F
  have r2 : RW (rwS σ1 (13 * 1 + 0) (nL R) (exc R 0 (lp R))) R (13 * 1 + 0) (exc R 0 (lp R)) := rwS_RW
  generalize rwS σ1 (13 * 1 + 0) (nL R) (exc R 0 (lp R)) = σ2 at c2 f2 r2
  have g2 := cr_sc (i := 1) (by omega) (cr_up (by omega) (by omega) f2)
  have h2 := HV_sc h1 g2
  obtain ⟨σ3, c3, f3, a3⟩ := k_branch hl hy hyr y 0 12 1 _ σ2 (by omega) (by omega) (by decide) h2 r2 (vp_exc h.1.1 (vp_told h.1.1) 0)
  refine ⟨σ3, Eq.trans hz ?_, (((bw_sc F0).tr g1).tr g2).tr (bw_sc f3), fun p hp => ?_⟩
  · have e8 : (if (8 : Int32) < nI y then (8 : Int32) else nI y) = nI y := if_neg (show ¬ (8 : Int32) < nI y from nI_nlt (b := y) (a := 8) (by omega) (by omega))
    rw [v_Chances_weigh_2, if_neg (show ¬ nI (5 + 1) < (6 : Int32) by decide), c1, cV_s, show vI (0 : Int32) = vI (nI 0) from rfl, c2, cV_s, e8, show vL (1 : Int64) = vL (lN 1) from rfl, c3, cV_s]
  · rw [a3 p hp, row_gL f2, row_gL f1, G0 p hp, bw_all R l p hy, Int64.zero_add]
theorem k_weightOf {σ : St} {p : Nat} (hp : p < 6) : Cc 21 0 [vR 16 0, vI (nI p)] σ = some (some (vL (gL σ 3346 0 p)), σ) := by
  rw [c_Chances_weightOf, if_neg (nI_pos (by omega)), if_pos (lt6 hp), ix_nI hp (by omega)]
theorem t_chance {σ : St} {R : RF} (h : HV σ R) (a1 a2 a3 a4 : Int32) : RC 167 [vI a1, vI a2, vI a3, vI a4] σ (vI (cond (inB a1 (nL R) && inB a2 (nP R) && soB R a3 && inB a4 2) (nI (lo (wgt R (vlB R a2) (cl a1) (cl a3)) (10 ^ cl a3) a4)) (-2))) := by
  have hbb := h.1.b
  have hc : Cc 167 0 [vR 88 0, vI a1, vI a2, vI a3, vI a4] σ = cond (inB a1 (nL R) && inB a2 (nP R) && soB R a3 && inB a4 2) (cV (Cc 18 0 [vR 16 0, vI a1, vI a3] σ) (fun σ5 => cL (Cc 21 0 [vR 16 0, vI a2] σ5) (fun x7 σ6 => cL (Cc 17 0 [vI a3] σ6) (fun x9 σ8 => cL (Cc 203 0 [vL x7, vL x9, vI a4] σ8) (fun x11 σ10 => some (some (vI (Int64.toInt32 x11)), σ10)))))) (some (some (vI (-2)), σ)) := by
    rw [c_H_chance, h_chance h.1, cI_s, tv_ite, k_has h.1.prP (by omega), cI_s, tv_ite]
    cases inB a1 (nL R) <;> cases inB a2 (nP R) <;> cases soB R a3 <;> cases inB a4 2 <;> rfl
  refine RC_of hc (fun hq => ?_)
  simp only [Bool.and_eq_true] at hq
  obtain ⟨k1, g1, rfl⟩ := inB_e (by omega) hq.1.1.1
  obtain ⟨k2, g2, rfl⟩ := inB_e (by omega) hq.1.1.2
  obtain ⟨k3, g3, g4, g5, rfl⟩ := so_e hq.1.2
  obtain ⟨σ3, c3, f3, a3⟩ := k_weigh h g1 g4 g5
  refine ⟨σ3, ?_, f3⟩
  have hw := wgt_le h.1.1 (vlB_le h.1.1 (nI k2)) k1 g4
  have ht := ten_p g4
  rw [c3, cV_s, k_weightOf (by omega), cL_s, a3 k2 (by omega), ← wpl_v g2 h.1.1 g1, k_tenTo σ3 g4, cL_s, h_lowest σ3 (by omega) (by omega) ht.1 hq.2, cL_s, lN_i, cl_n (by omega), cl_n (by omega)]
theorem t_mean {σ : St} {R : RF} (h : HV σ R) (a1 a2 a3 : Int32) : RC 168 [vI a1, vI a2, vI a3] σ (vL (cond (inB a1 (nL R) && soB R a2 && inB a3 2) (lN (lo (wgt R (vlB R (-1)) (cl a1) (cl a2)) (10 ^ cl a2) a3)) (-2))) := by
  have hbb := h.1.b
  have hc : Cc 168 0 [vR 88 0, vI a1, vI a2, vI a3] σ = cond (inB a1 (nL R) && soB R a2 && inB a3 2) (cV (Cc 18 0 [vR 16 0, vI a1, vI a2] σ) (fun σ3 => Vv 168 0 29 [some (vR 88 0), some (vI a1), some (vI a2), some (vI a3), some (vL 0), none, some (vI 0)] [] σ3)) (some (some (vL (-2)), σ)) := by
    rw [c_H_mean, h_chance h.1, cI_s, tv_ite]
  cases hb : inB a1 (nL R) && soB R a2 && inB a3 2
  · rw [hb] at hc
    exact ⟨_, hc, Fr.rf⟩
  · rw [hb] at hc
    have hq := hb
    simp only [Bool.and_eq_true] at hq
    obtain ⟨k1, g1, rfl⟩ := inB_e (by omega) hq.1.1
    obtain ⟨k3, g3, g4, g5, rfl⟩ := so_e hq.1.2
    obtain ⟨σ3, c3, f3, w3⟩ := k_weigh h g1 g4 g5
    have h3 := HV_sc h f3
    have hw := wgt_le h.1.1 (vlB_le h.1.1 (-1)) k1 g4
    have ht := ten_p g4
    refine ⟨σ3, hc.trans ?_, f3⟩
    rw [cond_true, cond_true, c3, cV_s, cl_n (by omega), cl_n (by omega)]
    refine (lpU (V := fun j => Vv 168 0 29 [some (vR 88 0), some (vI (nI k1)), some (vI (nI k3)), some (vI a3), some (vL (lN (sm (fun p => wpl R k1 k3 p * wth R (see R (fal R) p)) j))), none, some (vI (nI j))] [] σ3) (n := nP R) (fun j hj => ?_)).trans ?_
    · show Vv _ _ _ _ _ _ = Vv _ _ _ _ _ _
      have w1 := wth_le h.1.1 (see R (fal R) j)
      rw [v_H_mean_29, h3.1.prP.1, if_pos (nI_lt hj (by omega)), k_weightOf (by omega), cL_s, w3 j (by omega), k_worthFrom (i := 0) h3.1 h3.2.1 hj, cI_s, nI_1, nI_l (by omega), lN_mul, lN_add]
      rfl
    · show Vv _ _ _ _ _ _ = _
      rw [v_H_mean_29, h3.1.prP.1, if_neg (nI_nlt (Nat.le_refl _) (by omega)), wpl_m h.1.1 g1, k_tenTo σ3 g4, cL_s, h_lowest σ3 (by omega) (by omega) ht.1 hq.2, cL_s]
