/-! LOTS: lot() -/
theorem hmr_fc : ∀ L, L < 7 → hmr L L = fc L := by decide +kernel
def bcl (x p : Nat) : Nat := x - (x &&& 2 ^ p)
theorem bcl_d : (List.range 64).all (fun x => (List.range 6).all (fun p => decide (nI x &&& (((1 : Int32) <<< (nI p &&& 31)) ^^^ (-1 : Int32)) = nI (bcl x p)) && (Nat.ble (bcl x p) 63 && (List.range 6).all (fun q => Nat.testBit (bcl x p) q == (Nat.testBit x q && !Nat.beq q p))))) = true := by decide +kernel
theorem bcl_e {x p : Nat} (hx : x < 64) (hp : p < 6) : nI x &&& (((1 : Int32) <<< (nI p &&& 31)) ^^^ (-1 : Int32)) = nI (bcl x p) ∧ bcl x p < 64 ∧ ∀ q, q < 6 → Nat.testBit (bcl x p) q = (Nat.testBit x q && !Nat.beq q p) := by
  have h := List.all_eq_true.mp (List.all_eq_true.mp bcl_d x (List.mem_range.mpr hx)) p (List.mem_range.mpr hp)
  rw [Bool.and_eq_true, Bool.and_eq_true] at h
  refine ⟨of_decide_eq_true h.1, ?_, fun q hq => ?_⟩
  · have := Nat.le_of_ble_eq_true h.2.1
    omega
  · exact eq_of_beq (List.all_eq_true.mp h.2.2 q (List.mem_range.mpr hq))
theorem cnl_le (Q : List Nat → Bool) : ∀ l, cnl Q l ≤ l.length
  | [] => Nat.le_refl _
  | r :: l => by
    have := cnl_le Q l
    show cond (Q r) 1 0 + cnl Q l ≤ l.length + 1
    cases Q r
    · show 0 + cnl Q l ≤ _
      omega
    · show 1 + cnl Q l ≤ _
      omega
theorem pc_0 : pc 0 = 0 := by decide
theorem lf_le {R : RF} (hL : nL R ≤ 6) {l : Nat} (hl : l < nL R) (p : Int32) : lfS R l p (nL R) 0 0 ≤ fc (nL R) := by
  rw [← lf_eq hL hl p (nL R) 0 0 (by rw [pc_0]; rfl) (Nat.pow_pos (by omega)) (Nat.zero_testBit l)]
  refine Nat.le_trans (cnl_le _ _) ?_
  rw [rws_fc hL (Nat.pow_pos (by omega)) (by rw [pc_0]; rfl)]
  exact Nat.le_refl _
theorem fc_720 : ∀ k, k < 7 → fc k ≤ 720 := by decide +kernel
theorem m_lot {σ : St} {R : RF} (h : H0 σ R) (a1 a2 a3 : Int32) : RM 331 [vI a1, vI a2, vI a3] σ (vI (cond (inB a1 (nL R) && inB a2 (nP R) && inB a3 2) (nI (lo (lfS R (cl a1) a2 (nL R) 0 0) (fc (nL R)) a3)) (-2))) := by
  have hbb := h.b
  have h1 := thr_H h
  have hLP := vp_le (vp_told h.1)
  refine RM_of (by rw [c_M_lot, r_isMan h1, cI_s, tv_ite, r_isPlace h1, cI_s, tv_ite, r_isHalf, cI_s, tv_ite, cond_and, cond_and]) (thr_F σ) (fun hq => ?_)
  simp only [Bool.and_eq_true] at hq
  obtain ⟨l, hl, rfl⟩ := inB_e (by omega) hq.1.1
  obtain ⟨σ1, c1, f1, g1, w1, m1, _, t1, s1⟩ := s_lays h1
  have hf := fc_720 (nL R) (by omega)
  have hle := lf_le (R := R) (by omega) hl a2
  refine ⟨σ1, ?_, f1⟩
  have c2 := s_lots g1 s1 hl a2 (nL R) 12 0 0 (by rw [pc_0]; rfl) (by omega) (Nat.pow_pos (by omega)) (Nat.pow_pos (by omega)) rfl
  rw [c1, cV_s, show vI (0 : Int32) = vI (nI 0) from rfl, c2, cI_s, cI_L g1, s_times σ1 (nL R) 11 (by omega) (by omega), cI_s, nI_l (by omega), nI_l (by omega), s_part σ1 (by omega) (by omega) (fc_pos _) hq.2, cL_s, lN_i, cl_n (by omega)]
/-! THE CLASS -/
def lst (f : Nat → Nat) : Nat → Nat → List Nat
  | _, 0 => []
  | j, k + 1 => f j :: lst f (j + 1) k
theorem lst_e (f : Nat → Nat) : ∀ k j, lst f j k = (List.range k).map (fun i => f (j + i))
  | 0, _ => rfl
  | k + 1, j => by
    rw [List.range_succ_eq_map, List.map_cons, List.map_map]
    show f j :: lst f (j + 1) k = f (j + 0) :: _
    rw [lst_e f k (j + 1)]
    congr 1
    refine List.map_congr_left (fun i _ => ?_)
    show f (j + 1 + i) = f (j + (i + 1))
    congr 1
    omega
theorem k_taken {σ : St} {R : RF} (h : HV σ R) {l : Nat} (hl : l < nL R) {f : Nat → Nat} (hr : ∀ i, i < nL R → gI σ 3297 0 i = nI (f i)) (hf : ∀ i, i < nL R → f i < nL R) : ∀ (k j x u : Nat), j + k = nL R → x < 64 → u < 2 ^ nP R → pc u ≤ j → (∀ p, p < nP R → Nat.testBit x p = !Nat.testBit u p) → Vv 85 0 13 [some (vR 56 0), some (vI (nI l)), some (vI (nI x)), some (vI (nI j)), none, none] [] σ = some (some (vI (tbo R l (lst f j k) u)), σ)
  | 0, j, x, u, hj, hx, hu, hpc, hxu => by
    have hbb := h.1.b
    rw [v_Rosters_takenByOrder_13, h.1.prL.1, if_neg (nI_nlt (by omega) (by omega))]
    rfl
  | k + 1, j, x, u, hj, hx, hu, hpc, hxu => by
    have hbb := h.1.b
    have hLP := vp_le (vp_told h.1.1)
    have hjL : j < nL R := by omega
    have hfree := pc_free (n := nP R) (by omega) hu (by omega)
    obtain ⟨p, hp, hup, ep⟩ := tko_p (m := f j) hfree
    have ecl : cl (tko R u (f j)) = p := by rw [ep, cl_n (by omega)]
    have hpcu := pc_or (n := nP R) (by omega) hu hp hup
    obtain ⟨x1, x2, x3⟩ := bcl_e hx (show p < 6 by omega)
    have hfj := hf j hjL
    have ih := k_taken h hl hr hf k (j + 1) (bcl x p) (u ||| 2 ^ p) (by omega) x2 (Nat.or_lt_two_pow hu (Nat.pow_lt_pow_right (by omega) hp)) (by omega) (fun q hq => by
      rw [x3 q (by omega), hxu q hq, Nat.testBit_or, Nat.testBit_two_pow]
      have : decide (p = q) = Nat.beq q p := by
        by_cases hqp : q = p
        · rw [hqp, Nat.beq_refl, decide_eq_true rfl]
        · rw [decide_eq_false (fun z => hqp z.symm)]
          cases hz : Nat.beq q p
          · rfl
          · exact absurd (Nat.eq_of_beq_eq_true hz) hqp
      rw [this]
      cases Nat.testBit u q <;> cases Nat.beq q p <;> rfl)
    have em : am (Nat.testBit x) (fun b p => decide (wth R (see R (fal R) b) < wth R (see R (fal R) p))) (nP R) = am (frF u) (ltW R) (nP R) := am_congr (fun q hq => hxu q hq) (fun _ _ _ _ => rfl)
    have et : tbo R l (lst f j (k + 1)) u = cond (Nat.beq (f j) l) (tko R u (f j)) (tbo R l (lst f (j + 1) k) (u ||| 2 ^ cl (tko R u (f j)))) := rfl
    have fin : (if nI (f j) = nI l then some (some (vI (nI p)), σ) else if nI p = (-1 : Int32) then some (some (vI (nI p)), σ) else Vv 85 0 13 [some (vR 56 0), some (vI (nI l)), some (vI (nI (bcl x p))), some (vI (nI (j + 1))), none, none] [] σ) = some (some (vI (tbo R l (lst f j (k + 1)) u)), σ) := by
      rw [et, ecl, ep]
      cases hb : Nat.beq (f j) l
      · have hne : f j ≠ l := Nat.ne_of_beq_eq_false hb
        rw [if_neg (fun z => hne ((nI_eq (by omega) (by omega)).mp z)), if_neg (nI_nm (by omega)), ih]
        rfl
      · rw [if_pos (by rw [Nat.eq_of_beq_eq_true hb])]
        rfl
    rw [v_Rosters_takenByOrder_13, h.1.prL.1, if_pos (nI_lt hjL (by omega)), ix_nI (by omega) (by omega), hr j hjL, k_lh h.1 hfj, cI_s, k_firstSees (u := u) h hfj (by omega) hxu, cI_s]
    have et2 : tko R u (f j) = cond (ex (glF R u (f j)) (nP R)) (nI (fr (glF R u (f j)) (nP R) 0)) (oI (am (frF u) (ltW R) (nP R))) := rfl
    cases he : ex (glF R u (f j)) (nP R)
    · rw [he, cond_false, ep] at et2
      rw [cond_false, if_pos rfl, k_placeOfMost (i := 0) h.1 h.2.1 (by omega), cI_s, em, ← et2, ix_nI (by omega) (by omega), hr j hjL, x1, nI_1]
      exact fin
    · rw [he, cond_true, ep] at et2
      rw [cond_true, ← et2, if_neg (nI_nm (by omega)), ix_nI (by omega) (by omega), hr j hjL, x1, nI_1]
      exact fin
theorem cn_cnl (Q : List Nat → Bool) (g : Nat → List Nat) : ∀ n, cnl Q ((List.range n).map g) = cn (fun k => Q (g k)) n
  | 0 => rfl
  | n + 1 => by
    rw [List.range_succ, List.map_append, cnl_a, cn_cnl Q g n]
    rfl
theorem k_orders {σ : St} {R : RF} (h : HV σ R) {l : Nat} (hl : l < nL R) (a2 : Int32) : ∃ σ', Cc 84 0 [vR 56 0, vI (nI l), vI a2] σ = some (some (vI (nI (lfS R l a2 (nL R) 0 0))), σ') ∧ Fr scC σ σ' := by
  have hbb := h.1.b
  have hm := hmr_le (nL R) (by omega) (nL R) (by omega)
  have ec : cn (fun n => decide (tbo R l ((List.range (nL R)).map (vF (nL R) (dgt (nL R) (nL R) n))) 0 = a2)) (hmr (nL R) (nL R)) = lfS R l a2 (nL R) 0 0 := by
    rw [← lf_eq (R := R) (by omega) hl a2 (nL R) 0 0 (by rw [pc_0]; rfl) (Nat.pow_pos (by omega)) (Nat.zero_testBit l), ← rws_n (nL R) (by omega) (nL R) (by omega), cn_cnl]
  have h64 : bn (fun _ => true) (nP R) < 64 := Nat.lt_of_lt_of_le (bn_lt _ _) (Nat.pow_le_pow_right (by omega) (by omega) : 2 ^ nP R ≤ 2 ^ 6)
  obtain ⟨σ3, c3, f3⟩ := lpHC (R := R) (V := fun j σ => Vv 84 0 24 [some (vR 56 0), some (vI (nI l)), some (vI a2), some (vI (nI (nL R))), some (vI (nI (hmr (nL R) (nL R)))), some (vI (nI (cn (fun n => decide (tbo R l ((List.range (nL R)).map (vF (nL R) (dgt (nL R) (nL R) n))) 0 = a2)) j))), some (vI (nI j))] [] σ) (n := hmr (nL R) (nL R)) 0 (by omega) (fun j τ _ hj hτ => by
    obtain ⟨σ1, c1, f1, r1⟩ := rrow_fill τ (P := nL R) (L := nL R) (n := j) (by omega) (Nat.le_refl _) (by omega)
    have h1 := HV_sc hτ (rrow_sc f1)
    refine ⟨σ1, ?_, rrow_sc f1⟩
    show Vv _ _ _ _ _ _ = Vv _ _ _ _ _ _
    have e : cn (fun n => decide (tbo R l ((List.range (nL R)).map (vF (nL R) (dgt (nL R) (nL R) n))) 0 = a2)) (j + 1) = cn (fun n => decide (tbo R l ((List.range (nL R)).map (vF (nL R) (dgt (nL R) (nL R) n))) 0 = a2)) j + cond (decide (tbo R l ((List.range (nL R)).map (vF (nL R) (dgt (nL R) (nL R) j))) 0 = a2)) 1 0 := rfl
    have c2 : Cc 85 0 [vR 56 0, vI (nI l)] σ1 = some (some (vI (tbo R l ((List.range (nL R)).map (vF (nL R) (dgt (nL R) (nL R) j))) 0)), σ1) := by
      have el : lst (vF (nL R) (dgt (nL R) (nL R) j)) 0 (nL R) = (List.range (nL R)).map (vF (nL R) (dgt (nL R) (nL R) j)) := by
        rw [lst_e]
        refine List.map_congr_left (fun i _ => ?_)
        rw [Nat.zero_add]
      rw [c_Rosters_takenByOrder, k_all h1.1.prP (by omega), cI_s, ← el]
      exact k_taken h1 hl r1 (fun i hi => vF_lt (by omega) (by omega) hj hi) (nL R) 0 _ 0 (by omega) h64 (Nat.pow_pos (by omega)) (by rw [pc_0]; exact Nat.le_refl _) (fun p hp => by rw [bn_tb, decide_eq_true hp, Nat.zero_testBit]; rfl)
    rw [v_Rosters_ordersThatGive_24, if_pos (nI_lt hj (by omega)), c1, cV_s, c2, cI_s, nI_1, e, nI_1]
    by_cases hq : tbo R l ((List.range (nL R)).map (vF (nL R) (dgt (nL R) (nL R) j))) 0 = a2
    · rw [if_pos hq, decide_eq_true hq]
      rfl
    · rw [if_neg hq, decide_eq_false hq]
      rfl) σ h
  refine ⟨σ3, ?_, f3⟩
  rw [c_Rosters_ordersThatGive, h.1.prL.1, h_howMany σ (by omega) (Nat.le_refl _), cI_s]
  refine Eq.trans c3 ?_
  show Vv _ _ _ _ _ _ = _
  rw [v_Rosters_ordersThatGive_24, if_neg (nI_nlt (Nat.le_refl _) (by omega)), ec]
theorem t_lot {σ : St} {R : RF} (h : HV σ R) (a1 a2 a3 : Int32) : RC 153 [vI a1, vI a2, vI a3] σ (vI (cond (inB a1 (nL R) && inB a2 (nP R) && inB a3 2) (nI (lo (lfS R (cl a1) a2 (nL R) 0 0) (fc (nL R)) a3)) (-2))) := by
  have hbb := h.1.b
  refine RC_of (by rw [c_H_lot, k_has h.1.prL (by omega), cI_s, tv_ite, k_has h.1.prP (by omega), cI_s, tv_ite, h_two, cI_s, tv_ite, cond_and, cond_and]) (fun hq => ?_)
  simp only [Bool.and_eq_true] at hq
  obtain ⟨l, hl, rfl⟩ := inB_e (by omega) hq.1.1
  have hf := fc_le (nL R) (by omega)
  have hle := lf_le (R := R) (by omega) hl a2
  obtain ⟨σ1, c1, f1⟩ := k_orders h hl a2
  refine ⟨σ1, ?_, f1⟩
  rw [h.1.prL.1, h_howMany σ (by omega) (Nat.le_refl _), cI_s, c1, cI_s, hmr_fc (nL R) (by omega), nI_l (by omega), nI_l (by omega), h_lowest σ1 (by omega) (by omega) (fc_pos _) hq.2, cL_s, lN_i, cl_n (by omega)]
