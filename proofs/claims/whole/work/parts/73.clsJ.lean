/-! THE CLASS: years drawn, slots -/
theorem lN_and (a b : Nat) : lN a &&& lN b = lN (a &&& b) := by
  apply Int64.toBitVec_inj.mp
  show BitVec.ofNat 64 a &&& BitVec.ofNat 64 b = BitVec.ofNat 64 (a &&& b)
  rw [BitVec.ofNat_and]
theorem and31 (a : Nat) : lN a &&& (2147483647 : Int64) = lN (a % 2147483648) := by
  have h1 : (2147483647 : Int64) = lN (2 ^ 31 - 1) := rfl
  rw [h1, lN_and, Nat.and_two_pow_sub_one_eq_mod]
theorem mgd_12 {R : RF} (hy : yr R ≤ 12) (s : Nat) : bn (mgd R s) (yr R) = bn (mgd R s) 12 := by
  have h1 := bn_cut (mgd R s) (n := yr R) 12 hy
  rw [← h1]
  exact bn_congr (fun k _ => by
    unfold mgd
    cases decide (k < yr R) <;> rfl)
theorem k_drawYears {σ : St} {R : RF} (h : K0 σ R) {s : Nat} (hs : s < 2 ^ 31) : Cc 22 0 [vR 16 0, vI (nI s)] σ = some (some (vI (nI (bn (mgd R s) 12))), σ) := by
  have hbb := h.b
  rw [c_Chances_drawYears, nI_l hs]
  have hl := lpU (V := fun j => Vv 22 0 9 [some (vR 16 0), some (vI (nI s)), some (vL (lN (dn s j))), none, some (vI (nI (bn (mgd R s) j))), some (vI (nI j))] [] σ) (n := yr R) (fun j hj => by
    show Vv _ _ _ _ _ _ = Vv _ _ _ _ _ _
    have hd := dn_lt hs j
    have hd1 := dn_lt hs (j + 1)
    have e1 : (1103515245 : Int64) * lN (dn s j) = lN (1103515245 * dn s j) := lN_mul 1103515245 (dn s j)
    have e2 : lN (1103515245 * dn s j) + (12345 : Int64) = lN (1103515245 * dn s j + 12345) := lN_add _ 12345
    have e3 : lN (1103515245 * dn s j + 12345) &&& (2147483647 : Int64) = lN (dn s (j + 1)) := and31 _
    have e4 : lN (dn s (j + 1)) / (65536 : Int64) = lN (dn s (j + 1) / 65536) := lN_d63 (b := 65536) (by omega) (by omega) (by omega)
    have e5 : lN (dn s (j + 1) / 65536) - lN (dn s (j + 1) / 65536) / (10 : Int64) * (10 : Int64) = lN (dn s (j + 1) / 65536 % 10) := lN_r63 (b := 10) (by omega) (by omega) (by omega)
    have e6 : (lN (dn s (j + 1) / 65536 % 10) < lN (od R)) = (dn s (j + 1) / 65536 % 10 < od R) := propext (lN_lt (by omega) (by omega))
    rw [v_Chances_drawYears_9, h.years, if_pos (nI_lt hj (by omega)), if_neg (by decide), if_neg (by decide), e1, e2, e3, h.odds, nI_l (by omega), e4, e5, nI_1]
    have hm : mgd R s j = decide (dn s (j + 1) / 65536 % 10 < od R) := by unfold mgd; rw [decide_eq_true hj, Bool.true_and]
    simp only [lg_lt0, e6]
    by_cases hz : dn s (j + 1) / 65536 % 10 < od R
    · rw [if_pos hz, bn_or1 (by omega) (by rw [hm]; exact decide_eq_true hz)]
    · rw [if_neg hz, ← bn_or0 (by rw [hm]; exact decide_eq_false hz)])
  refine Eq.trans hl ?_
  show Vv _ _ _ _ _ _ = _
  rw [v_Chances_drawYears_9, h.years, if_neg (nI_nlt (Nat.le_refl _) (by omega)), mgd_12 (by omega)]
theorem h_trial {σ : St} {R : RF} (h : HV σ R) (s : Nat) : ∃ σ1 σ', Cc 23 0 [vR 24 1] σ = some (none, σ1) ∧ Cc 25 0 [vR 24 1, vI (nI (lw R)), vI (nI (bn (mgd R s) 12))] σ1 = some (none, σ') ∧ Fr (crS 1) σ σ1 ∧ Fr (crS 1) σ σ' ∧ CV σ' 1 R (fal R) (PD R s) := by
  have hbb := h.1.b
  obtain ⟨σ2, σ3, c2, c3, f2, f3, r3⟩ := k_course h.1 (i := 1) h.2.1 (law := lw R) (by omega) (mvd := nI (bn (mgd R s) 12)) (mg := mgd R s) (fun y hy => bit_in (by omega) (by omega))
  exact ⟨σ2, σ3, c2, c3, f2, f3, h.1.cr f3, SC.cr (i := 1) (j := 0) h.2.1 f3, r3, vp_ps h.1.1 (vp_told h.1.1) _ _ _⟩
theorem t_drawn {σ : St} {R : RF} (h : HV σ R) (a1 a2 : Int32) : RC 173 [vI a1, vI a2] σ (vI (cond (decide (0 < nN R) && sdB a1 && inB a2 2) (cond (decide (cl a2 = 0)) (nI (bn (mgd R (cl a1)) 12)) (nI (joyA R (see R (fal R)) (PD R (cl a1))))) (-2))) := by
  refine RC_of (by rw [c_H_drawn, h_isTold h.1, cI_s, tv_ite, h_isSeed, cI_s, tv_ite, h_two, cI_s, tv_ite, cond_and, cond_and]) (fun hq => ?_)
  simp only [Bool.and_eq_true] at hq
  obtain ⟨k1, g1, rfl⟩ := inB_e (by omega) hq.1.2
  rw [k_drawYears h.1 (by omega), cI_s, cl_n (by omega)]
  rcases half_e hq.2 with rfl | rfl
  · rw [if_pos q_0]
    exact ⟨σ, rfl, Fr.rf⟩
  · rw [if_neg (by decide)]
    obtain ⟨σ1, σ2, c1, c2, f1, f2, v2⟩ := h_trial h k1
    refine ⟨σ2, ?_, cr_sc (by omega) f2⟩
    rw [c1, cV_s, (h.1.cr f1).law, c2, cV_s, k_joyA v2, cI_s]
    rfl
theorem t_luck {σ : St} {R : RF} (h : HV σ R) (a1 a2 a3 : Int32) : RC 174 [vI a1, vI a2, vI a3] σ (vI (cond (sdB a1 && nB a2 20 && inB a3 (nL R)) (nI (cn (lkB R (cl a1) (cl a3)) (cl a2))) (-2))) := by
  have hbb := h.1.b
  have e1 : (a2 < (1 : Int32)) = (a2.toInt < 1) := by rw [Int32.lt_iff_toInt_lt]; rfl
  have e20 : (a2 ≤ (20 : Int32)) = (a2.toInt ≤ 20) := by rw [Int32.le_iff_toInt_le]; rfl
  have hb : ∀ (X Y : Option AR), (if a2 < (1 : Int32) then Y else if a2 ≤ (20 : Int32) then X else Y) = cond (nB a2 20) X Y := fun X Y => by
    simp only [e1, e20]
    unfold nB
    by_cases h1 : a2.toInt < 1
    · rw [if_pos h1, decide_eq_false (by omega)]; rfl
    · rw [if_neg h1]
      by_cases h2 : a2.toInt ≤ 20
      · rw [if_pos h2, decide_eq_true (by omega)]; rfl
      · rw [if_neg h2, decide_eq_false (by omega)]; rfl
  refine RC_of (X := Vv 174 0 41 [some (vR 88 0), some (vI a1), some (vI a2), some (vI a3), some (vI 0), some (vI 0)] [] σ) (by
    rw [c_H_luck, k_has h.1.prL (by omega), cI_s, tv_ite, h_isSeed, cI_s, tv_ite, hb, cond_and, cond_and]
    cases sdB a1 <;> cases nB a2 20 <;> cases inB a3 (nL R) <;> rfl) (fun hq => ?_)
  simp only [Bool.and_eq_true] at hq
  obtain ⟨k1, g1, rfl⟩ := inB_e (by omega) hq.1.1
  obtain ⟨k2, g2, g2', rfl⟩ := nB_e (by omega) hq.1.2
  obtain ⟨k3, g3, rfl⟩ := inB_e (by omega) hq.2
  rw [cl_n (by omega), cl_n (by omega), cl_n (by omega)]
  obtain ⟨σ3, c3, f3⟩ := lpHC (R := R) (V := fun j σ => Vv 174 0 41 [some (vR 88 0), some (vI (nI k1)), some (vI (nI k2)), some (vI (nI k3)), some (vI (nI (cn (lkB R k1 k3) j))), some (vI (nI j))] [] σ) (n := k2) 0 (by omega) (fun j τ _ hj hτ => by
    obtain ⟨σ1, σ2, c1, c2, f1, f2, v2⟩ := h_trial hτ (k1 + j)
    have h1 := hτ.1.cr f1
    refine ⟨σ2, ?_, cr_sc (by omega) f2⟩
    show Vv _ _ _ _ _ _ = Vv _ _ _ _ _ _
    have e : cn (lkB R k1 k3) (j + 1) = cn (lkB R k1 k3) j + cond (lkB R k1 k3 j) 1 0 := rfl
    rw [v_H_luck_41, if_pos (nI_lt hj (by omega)), c1, cV_s, nI_add, k_drawYears h1 (by omega), cI_s, h1.law, c2, cV_s, k_firstGlad v2 g3, cI_s, nI_1, e, ite_n]
    simp only [fI_no (show yr R + 1 < 2 ^ 31 by omega)]
    have el : ex (fun y => see R (fal R) (PD R (k1 + j) y k3) (lh R k3)) (yr R + 1) = lkB R k1 k3 j := rfl
    rw [el]
    cases lkB R k1 k3 j
    · simp only [decide_true, cond_true, cond_false, Nat.add_zero]
    · simp only [Bool.true_eq_false, decide_false, cond_true, cond_false, nI_1]) σ h
  refine ⟨σ3, ?_, f3⟩
  refine Eq.trans c3 ?_
  show Vv _ _ _ _ _ _ = _
  rw [v_H_luck_41, if_neg (nI_nlt (Nat.le_refl _) (by omega))]
/-! slots -/
theorem k_hasN {σ : St} {s n : Nat} (h : gI σ 80 s 3 = nI n) (hn : n < 2 ^ 31) (a b : Int32) : Cc 111 0 [vR 80 s, vI a, vI b] σ = some (some (vI (tv (decide (0 ≤ a.toInt ∧ 0 ≤ b.toInt ∧ a.toInt + b.toInt ≤ n)))), σ) := by
  rw [c_Slot_hasNumbers, h, retZ_0, retZ_1]
  simp only [lt0, pas_le a b hn]
  by_cases h1 : a.toInt < 0
  · rw [if_pos h1, decide_eq_false (by omega)]
  · rw [if_neg h1]
    by_cases h2 : b.toInt < 0
    · rw [if_pos h2, decide_eq_false (by omega)]
    · rw [if_neg h2]
      by_cases h3 : a.toInt + b.toInt ≤ n
      · rw [if_pos h3, decide_eq_true (by omega)]
      · rw [if_neg h3, decide_eq_false (by omega)]
theorem one_i : (1 : Int32).toInt = 1 := rfl
theorem k_hasN1 {σ : St} {s n : Nat} (h : gI σ 80 s 3 = nI n) (hn : n < 2 ^ 31) (a : Int32) : Cc 111 0 [vR 80 s, vI a, vI 1] σ = some (some (vI (tv (inB a n))), σ) := by
  rw [k_hasN h hn, one_i]
  unfold inB
  rw [decide_eq_decide.mpr (show (0 ≤ a.toInt ∧ 0 ≤ (1 : Int) ∧ a.toInt + 1 ≤ n) ↔ (0 ≤ a.toInt ∧ a.toInt < n) by omega)]
theorem k_number {σ : St} {K : KT} (h : SK σ K) {s k : Nat} (hs : s < 4) (hw : kw K s ≠ 4) (hk : k < kn K s) : Cc 112 0 [vR 80 s, vI (nI k)] σ = some (some (vL (kc K s k)), σ) := by
  obtain ⟨h1, h2, h3, h4⟩ := h s hs
  obtain ⟨g0, g1, g2, g3⟩ := h4 hw
  rw [c_Slot_number, k_hasN1 g2 (by omega), cI_s, inB_n hk (by omega), tv_ite, cond_true, ix_nI (by omega) (by omega), g3 k hk]
/-- the class's own cells -/
def clS (t i j : Nat) : Bool := !rfS t i j
/-- a method of the class answers v, and then the state is S -/
def RCS (m : Nat) (a : List AV) (σ : St) (v : AV) (S : AZ) : Prop := ∃ σ', Cc m 0 (vR 88 0 :: a) σ = some (some v, σ') ∧ Fr clS σ σ' ∧ JC σ' S
theorem sc_cl {σ σ' : St} (h : Fr scC σ σ') : Fr clS σ σ' := h.up (fun t i j hq => by
  cases hz : scC t i j
  · rfl
  · exfalso
    have hr : rfS t i j = true := by
      unfold clS at hq
      cases hw : rfS t i j
      · rw [hw] at hq; cases hq
      · rfl
    unfold rfS at hr
    simp only [Bool.or_eq_true] at hr
    have hnot : ∀ t', Nat.beq t t' = true → scC t' i j = false → False := fun t' h1 h2 => by
      rw [Nat.eq_of_beq_eq_true h1, h2] at hz
      cases hz
    rcases hr with (((((((((((((((((((((((h | h) | h) | h) | h) | h) | h) | h) | h) | h) | h) | h) | h) | h) | h) | h) | h) | h) | h) | h) | h) | h) | h) | h) | h <;> exact hnot _ h rfl)
theorem RC.st {m : Nat} {a : List AV} {σ : St} {v : AV} (h : RC m a σ v) {S : AZ} (hS : JC σ S) : RCS m a σ v S := by
  obtain ⟨σ', h1, h2⟩ := h
  exact ⟨σ', h1, sc_cl h2, JC_sc hS h2⟩
