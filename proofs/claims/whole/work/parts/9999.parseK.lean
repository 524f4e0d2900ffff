/-! THE REFERENCE: roof() -/
def R00 : RF := fun _ _ => 0
theorem WF_00 : WF R00 := ⟨⟨Nat.zero_le _, Nat.zero_le _, Nat.zero_le _, Nat.zero_le _, Nat.zero_le _, Nat.zero_le _, Nat.zero_le _, Nat.zero_le _, Nat.zero_le _, Nat.zero_le _⟩, fun _ => ⟨rfl, rfl, rfl, rfl, rfl, rfl, rfl⟩, fun p hp => absurd hp (Nat.not_lt_zero _), fun p hp => absurd hp (Nat.not_lt_zero _), fun p hp => absurd hp (Nat.not_lt_zero _), fun p hp => absurd hp (Nat.not_lt_zero _), fun p hp => absurd hp (Nat.not_lt_zero _), fun p k hp => absurd hp (Nat.not_lt_zero _), fun p hp => absurd hp (Nat.not_lt_zero _)⟩
theorem s_clr9 : ∀ (k j : Nat) (σ : St), j + k = 9 → (∀ i, i < j → gI σ 23385 0 (i + 9 * 4) = 0) → ∃ σ', Vv 235 0 9 [some (vR 96 0), some (vI (nI j))] [] σ = some (none, σ') ∧ Fr pcS σ σ' ∧ (∀ i, i < 9 → gI σ' 23385 0 (i + 9 * 4) = 0) ∧ gI σ' 2897 0 4 = gI σ 2897 0 4
  | 0, j, σ, hj, ha => by
    have hj : j = 9 := by omega
    subst hj
    exact ⟨σ, by rw [v_M_clears_9, if_neg (by decide)], Fr.rf, ha, rfl⟩
  | k + 1, j, σ, hj, ha => by
    have hF : Fr pcS σ (sI σ 23385 0 (36 + j) 0) := Fr.rf.sI (pc_m_has (by omega) 0)
    obtain ⟨σ', c1, f1, a1, l1⟩ := s_clr9 k (j + 1) (sI σ 23385 0 (36 + j) 0) (by omega) (fun i hi => by
      by_cases hij : i = j
      · rw [hij, show j + 9 * 4 = 36 + j by omega, gI_sIs]
      · rw [gI_sIj (by omega)]
        exact ha i (by omega))
    refine ⟨σ', ?_, hF.tr f1, a1, l1.trans (gI_sIn (by decide))⟩
    rw [v_M_clears_9, if_pos (show nI j < (9 : Int32) from nI_lt (b := 9) (by omega) (by omega)), s_tells σ (show j < 9 by omega), cV_s, nI_1]
    exact c1
theorem s_clears (σ : St) : ∃ σ', Cc 235 0 [vR 96 0] σ = some (none, σ') ∧ Fr pcS σ σ' ∧ HM σ' 4 R00 := by
  have hF : Fr pcS σ (sI σ 2897 0 4 0) := Fr.rf.sI rfl
  obtain ⟨σ', c1, f1, a1, l1⟩ := s_clr9 9 0 (sI σ 2897 0 4 0) (by omega) (fun i hi => by omega)
  refine ⟨σ', ?_, hF.tr f1, fun j hj => a1 j hj, ?_, fun p hp => absurd hp (Nat.not_lt_zero _), fun p hp => absurd hp (Nat.not_lt_zero _), fun p hp => absurd hp (Nat.not_lt_zero _), fun p hp => absurd hp (Nat.not_lt_zero _), fun p hp => absurd hp (Nat.not_lt_zero _), fun p hp => absurd hp (Nat.not_lt_zero _)⟩
  · rw [c_M_clears, show (4 : Int32) = nI 4 from rfl, ix_nI (by omega) (by omega)]
    exact c1
  · rw [l1, gI_sIs]
    rfl
theorem s_begins {σ : St} {t : TP} (hB : TB σ t) : ∃ σ', Cc 223 0 [vR 96 0] σ = some (none, σ') ∧ Fr pmS σ σ' ∧ PG σ' t 0 := by
  have hF : Fr pmS σ (sI (sI (sI σ 96 0 12 0) 96 0 13 (-1)) 96 0 7 0) := ((Fr.rf.sI rfl).sI rfl).sI rfl
  obtain ⟨σ1, c1, f1, n1⟩ := s_next (p := 0) (hB.pm hF) (Nat.zero_le _) (gI_sIs _ _ _ _ _)
  refine ⟨σ1, by rw [c_M_begins, c1, cV_s], hF.tr (nx_pm f1), ?_, n1, Nat.zero_le _⟩
  rw [f1.i rfl, gI_sIj (by decide), gI_sIj (by decide), gI_sIs]
theorem HM_tell {σ : St} {R : RF} (h : HM σ 4 R) {k : Nat} (hk : k < 3) (v : Nat) : HM (sI σ 23385 0 (36 + k) (nI v)) 4 (R1 R 0 k v) := by
  obtain ⟨h1, h2, h3, h4, h5, h6, h7, h8⟩ := h
  have q : ∀ j, R1 R 0 k v 0 j = if j = k then v else R 0 j := fun j => R1_a R 0 k v j
  have dd : ∀ d j, d ≠ 0 → R1 R 0 k v d j = R d j := fun d j hd => R1_x R hd j
  generalize R1 R 0 k v = Q at q dd ⊢
  have k3 : nP Q = nP R := (q 3).trans (if_neg (by omega))
  have k4 : nM Q = nM R := (q 4).trans (if_neg (by omega))
  have k5 : nF Q = nF R := (q 5).trans (if_neg (by omega))
  have k6 : nW Q = nW R := (q 6).trans (if_neg (by omega))
  have k7 : nL Q = nL R := (q 7).trans (if_neg (by omega))
  have k8 : nA Q = nA R := (q 8).trans (if_neg (by omega))
  have k9 : nN Q = nN R := (q 9).trans (if_neg (by omega))
  refine ⟨fun j hj => ?_, ?_, fun p hp => ?_, fun m hm => ?_, fun f hf => ?_, fun w hw => ?_, fun l hl => ?_, fun i hi => ?_⟩
  · rw [q, gI_sI]
    by_cases hj2 : j = k
    · rw [if_pos ⟨rfl, rfl, by omega⟩, if_pos hj2]
    · rw [if_neg (fun z => hj2 (by omega)), if_neg hj2]
      exact h1 j hj
  · rw [k9, gI_sIn (by decide)]; exact h2
  · rw [k3] at hp
    rw [gI_sIn (by decide), gI_sIn (by decide), show px Q p = px R p from dd 1 p (by decide), show py Q p = py R p from dd 2 p (by decide)]; exact h3 p hp
  · rw [k4] at hm
    rw [gI_sIn (by decide), gI_sIn (by decide), gI_sIn (by decide), show mx Q m = mx R m from dd 3 m (by decide), show my Q m = my R m from dd 4 m (by decide), show mw Q m = mw R m from dd 5 m (by decide)]; exact h4 m hm
  · rw [k5] at hf
    rw [gI_sIn (by decide), gI_sIn (by decide), show fx Q f = fx R f from dd 6 f (by decide), show fy Q f = fy R f from dd 7 f (by decide)]; exact h5 f hf
  · rw [k6] at hw
    rw [gI_sIn (by decide), gI_sIn (by decide), show wa Q w = wa R w from dd 8 w (by decide), show wb Q w = wb R w from dd 9 w (by decide)]; exact h6 w hw
  · rw [k7] at hl
    rw [gI_sIn (by decide), gI_sIn (by decide), show lp Q l = lp R l from dd 10 l (by decide), show lh Q l = lh R l from dd 11 l (by decide)]; exact h7 l hl
  · rw [k8] at hi
    rw [gI_sIn (by decide), gI_sIn (by decide), gI_sIn (by decide), gI_sIn (by decide), show ak Q i = ak R i from dd 12 i (by decide), show aa Q i = aa R i from dd 13 i (by decide), show ab Q i = ab R i from dd 14 i (by decide), show ay Q i = ay R i from dd 15 i (by decide)]; exact h8 i hi
theorem HM_lines {σ : St} {R : RF} (h : HM σ 4 R) (N : Nat) : HM (sI σ 2897 0 4 (nI N)) 4 (R1 R 0 9 N) := by
  obtain ⟨h1, h2, h3, h4, h5, h6, h7, h8⟩ := h
  have q : ∀ j, R1 R 0 9 N 0 j = if j = 9 then N else R 0 j := fun j => R1_a R 0 9 N j
  have dd : ∀ d j, d ≠ 0 → R1 R 0 9 N d j = R d j := fun d j hd => R1_x R hd j
  generalize R1 R 0 9 N = Q at q dd ⊢
  have k3 : nP Q = nP R := q 3
  have k4 : nM Q = nM R := q 4
  have k5 : nF Q = nF R := q 5
  have k6 : nW Q = nW R := q 6
  have k7 : nL Q = nL R := q 7
  have k8 : nA Q = nA R := q 8
  have k9 : nN Q = N := q 9
  refine ⟨fun j hj => ?_, ?_, fun p hp => ?_, fun m hm => ?_, fun f hf => ?_, fun w hw => ?_, fun l hl => ?_, fun i hi => ?_⟩
  · rw [q, if_neg (by omega), gI_sIn (by decide)]
    exact h1 j hj
  · rw [k9, gI_sIs]
  · rw [k3] at hp
    rw [gI_sIn (by decide), gI_sIn (by decide), show px Q p = px R p from dd 1 p (by decide), show py Q p = py R p from dd 2 p (by decide)]; exact h3 p hp
  · rw [k4] at hm
    rw [gI_sIn (by decide), gI_sIn (by decide), gI_sIn (by decide), show mx Q m = mx R m from dd 3 m (by decide), show my Q m = my R m from dd 4 m (by decide), show mw Q m = mw R m from dd 5 m (by decide)]; exact h4 m hm
  · rw [k5] at hf
    rw [gI_sIn (by decide), gI_sIn (by decide), show fx Q f = fx R f from dd 6 f (by decide), show fy Q f = fy R f from dd 7 f (by decide)]; exact h5 f hf
  · rw [k6] at hw
    rw [gI_sIn (by decide), gI_sIn (by decide), show wa Q w = wa R w from dd 8 w (by decide), show wb Q w = wb R w from dd 9 w (by decide)]; exact h6 w hw
  · rw [k7] at hl
    rw [gI_sIn (by decide), gI_sIn (by decide), show lp Q l = lp R l from dd 10 l (by decide), show lh Q l = lh R l from dd 11 l (by decide)]; exact h7 l hl
  · rw [k8] at hi
    rw [gI_sIn (by decide), gI_sIn (by decide), gI_sIn (by decide), gI_sIn (by decide), show ak Q i = ak R i from dd 12 i (by decide), show aa Q i = aa R i from dd 13 i (by decide), show ab Q i = ab R i from dd 14 i (by decide), show ay Q i = ay R i from dd 15 i (by decide)]; exact h8 i hi
theorem x_ends {σ : St} {t : TP} {p : Nat} (hB : TB σ t) (h : PG σ t p) : ∃ σ', Cc 222 0 [vR 96 0] σ = some (none, σ') ∧ Fr pmS σ σ' ∧ RG σ' t (sE t p) (ent t p) := by
  have hkn : knt t p ≤ 5 := by
    unfold knt kd
    split
    · exact (bk_le _).2
    · omega
  unfold sE
  rw [c_M_ends, h.2.1.2.1]
  by_cases q3 : knt t p = 3
  · obtain ⟨σ1, c1, f1, g1⟩ := g_next hB h
    rw [q3, if_pos q_3, if_pos h.1, c1, cV_s]
    exact ⟨σ1, rfl, f1, g1⟩
  · obtain ⟨σ1, c1, f1, b1⟩ := g_fails hB h (k := 1) (by omega) (by omega)
    have c1 : Cc 216 0 [vR 96 0, vI 1] σ = some (none, σ1) := c1
    have : Nat.beq (knt t p) 3 = false := by
      cases hz : Nat.beq (knt t p) 3
      · rfl
      · exact absurd (Nat.eq_of_beq_eq_true hz) q3
    rw [if_neg (q_n3 (by omega) q3), c1, cV_s, if_neg b1.ne, this]
    exact ⟨σ1, rfl, f1, b1⟩
/-- the first line -/
theorem x_rfl {σ : St} {t : TP} {p : Nat} {R : RF} (hB : TB σ t) (hH : HM σ 4 R) (h : PG σ t p) : ∃ σ', (∀ K : St → Option AR, cV (Cc 219 0 [vR 96 0, vL 365640] σ) (fun σ10 => cI (Cc 221 0 [vR 96 0, vL 13385674, vI 1, vI 12] σ10) (fun x12 σ11 => cV (Cc 227 0 [vR 96 0, vI 0, vI x12] σ11) (fun σ13 => cI (Cc 221 0 [vR 96 0, vL 8798, vI 0, vI 3] σ13) (fun x15 σ14 => cV (Cc 227 0 [vR 96 0, vI 1, vI x15] σ14) (fun σ16 => cI (Cc 221 0 [vR 96 0, vL 298288, vI 0, vI 10] σ16) (fun x18 σ17 => cV (Cc 227 0 [vR 96 0, vI 2, vI x18] σ17) (fun σ19 => K σ19))))))) = K σ') ∧ Fr pcS σ σ' ∧ RP σ' t (pRf t R p) := by
  obtain ⟨σ1, c1, f1, g1⟩ := x_asks (o := none) hB h (k := 8) (by omega) (x := 365640) rfl
  have B1 := hB.pm f1
  obtain ⟨σ2, a, c2, f2, g2, v2⟩ := x_number2 B1 g1 (k := 11) (by omega) (x := 13385674) rfl (lo := 1) (hi := 13) (by omega) (by omega)
  have c2 : Cc 221 0 [vR 96 0, vL 13385674, vI 1, vI 12] σ1 = some (some (vI (nI a)), σ2) := c2
  have B2 : TB (sI σ2 23385 0 36 (nI a)) t := TB_d (B1.pm f2) (gI_sIn (by decide)) (fun j => gI_sIn (by decide))
  obtain ⟨σ3, b, c3, f3, g3, v3⟩ := x_number2 B2 (g2.d (fun j => gI_sIn (by decide)) (fun _ => rfl)) (k := 3) (by omega) (x := 8798) rfl (lo := 0) (hi := 4) (by omega) (by omega)
  have c3 : Cc 221 0 [vR 96 0, vL 8798, vI 0, vI 3] (sI σ2 23385 0 36 (nI a)) = some (some (vI (nI b)), σ3) := c3
  have B3 : TB (sI σ3 23385 0 37 (nI b)) t := TB_d (B2.pm f3) (gI_sIn (by decide)) (fun j => gI_sIn (by decide))
  obtain ⟨σ4, c, c4, f4, g4, v4⟩ := x_number2 B3 (g3.d (fun j => gI_sIn (by decide)) (fun _ => rfl)) (k := 6) (by omega) (x := 298288) rfl (lo := 0) (hi := 11) (by omega) (by omega)
  have c4 : Cc 221 0 [vR 96 0, vL 298288, vI 0, vI 10] (sI σ3 23385 0 37 (nI b)) = some (some (vI (nI c)), σ4) := c4
  have t0 : Cc 227 0 [vR 96 0, vI 0, vI (nI a)] σ2 = some (none, sI σ2 23385 0 36 (nI a)) := s_tells σ2 (k := 0) (by omega) (nI a)
  have t1 : Cc 227 0 [vR 96 0, vI 1, vI (nI b)] σ3 = some (none, sI σ3 23385 0 37 (nI b)) := s_tells σ3 (k := 1) (by omega) (nI b)
  have t2 : Cc 227 0 [vR 96 0, vI 2, vI (nI c)] σ4 = some (none, sI σ4 23385 0 38 (nI c)) := s_tells σ4 (k := 2) (by omega) (nI c)
  refine ⟨sI σ4 23385 0 38 (nI c), fun K => ?_, (((((((pm_pc f1).tr (pm_pc f2)).sI rfl).tr (pm_pc f3)).sI rfl).tr (pm_pc f4)).sI rfl), ?_⟩
  · rw [c1, cV_s, c2, cI_s, t0, cV_s, c3, cI_s, t1, cV_s, c4, cI_s, t2, cV_s]
  · have hp : pRf t R p = th (oo (oo (oo (oo (oo (oo (oo none (wE t 8 p)) (wE t 11 (ent t p))) (nE t 1 13 (ent t (ent t p)))) (wE t 3 (e3 t p))) (nE t 0 4 (e4 t p))) (wE t 6 (e5 t p))) (nE t 0 11 (e6 t p))) (.inr (e7 t p, R1 (R1 (R1 R 0 0 (vlt t (e2 t p))) 0 1 (vlt t (e4 t p))) 0 2 (vlt t (e6 t p)))) := by
      rw [th_oo, th_oo, th_oo, th_oo, th_oo, th_oo]
      rfl
    rw [hp]
    refine RP_th (g4.d (fun j => gI_sIn (by decide)) (fun _ => rfl)) (fun z => ?_)
    have z3 := (oo_n (oo_n z).1).1
    have z2 := (oo_n (oo_n z3).1).1
    rw [show vlt t (e2 t p) = a from (v2 z2).symm, show vlt t (e4 t p) = b from (v3 z3).symm, show vlt t (e6 t p) = c from (v4 z).symm]
    have H2 := HM_pm (HM_pm hH f1) f2
    have H3 := HM_pm (HM_tell H2 (k := 0) (by omega) a) f3
    have H4 := HM_pm (HM_tell H3 (k := 1) (by omega) b) f4
    exact HM_tell H4 (k := 2) (by omega) c
