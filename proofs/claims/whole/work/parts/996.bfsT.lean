/-! SHIFTS: THE CLASS, before the first turn; reach, far -/
def nrS (t _i _j : Nat) : Bool := Nat.beq t 3337
theorem nr_sx {σ σ' : St} (h : Fr nrS σ σ') : Fr sxS σ σ' := h.up (fun t i j hq => by
  cases hz : nrS t i j
  · rfl
  · rw [Nat.eq_of_beq_eq_true hz] at hq
    cases hq)
theorem k_near24 {R : RF} : ∀ (k p : Nat) (τ : St), p + k = 6 → K0 τ R → (∀ q, q < p → gI τ 3337 0 q = nI (bn (wayB R q) (nP R))) → ∃ σ', Vv 91 0 24 [some (vR 64 0), some (vI (nI p))] [] τ = Vv 91 0 24 [some (vR 64 0), some (vI (nI 6))] [] σ' ∧ Fr nrS τ σ' ∧ ∀ q, q < 6 → gI σ' 3337 0 q = nI (bn (wayB R q) (nP R))
  | 0, p, τ, hp, h, hn => by
    have hp : p = 6 := by omega
    subst hp
    exact ⟨τ, rfl, Fr.rf, hn⟩
  | k + 1, p, τ, hp, h, hn => by
    have hF : Fr nrS τ (sI τ 3337 0 p (nI (bn (wayB R p) (nP R)))) := Fr.rf.sI rfl
    obtain ⟨σ', c1, f1, n1⟩ := k_near24 k (p + 1) (sI τ 3337 0 p (nI (bn (wayB R p) (nP R)))) (by omega) (K0_sc h (sx_up (nr_sx hF))) (fun q hq => by
      by_cases hqp : q = p
      · rw [hqp, gI_sIs]
      · rw [gI_sIj hqp]
        exact hn q (by omega))
    refine ⟨σ', ?_, hF.tr f1, n1⟩
    rw [v_Shifting_spread_24, if_pos (show nI p < (6 : Int32) from nI_lt (b := 6) (by omega) (by omega)), k_neighbours h (by omega), cI_s, ix_nI (by omega) (by omega), nI_1]
    exact c1
theorem k_dist2 (σ : St) : Vv 91 0 2 [some (vR 64 0), some (vI 0)] [] σ = Vv 91 0 2 [some (vR 64 0), some (vI (nI 720))] [] (pI σ 368881 0 (fun q => if q < 720 then -1 else gI σ 368881 0 q)) := by
  have l1 := lpU (V := fun j => Vv 91 0 2 [some (vR 64 0), some (vI (nI j))] [] (pI σ 368881 0 (fun q => if q < j then -1 else gI σ 368881 0 q))) (n := 720) (fun j hj => by
    show Vv _ _ _ _ _ _ = Vv _ _ _ _ _ _
    rw [v_Shifting_spread_2, if_pos (lt720 hj), ix_nI hj (by omega), sI_pI, nI_1]
    congr 2
    funext q
    unfold upd
    try dsimp only
    by_cases hq : q = j
    · rw [if_pos hq, if_pos (by omega)]
    · rw [if_neg hq]
      by_cases hq2 : q < j
      · rw [if_pos hq2, if_pos (by omega)]
      · rw [if_neg hq2, if_neg (by omega)])
  have e0 : pI σ 368881 0 (fun q => if q < 0 then -1 else gI σ 368881 0 q) = σ := by
    have : (fun q => if q < 0 then -1 else gI σ 368881 0 q) = gI σ 368881 0 := by
      funext q
      rw [if_neg (by omega)]
    rw [this, pI_id]
  have l1 : Vv 91 0 2 [some (vR 64 0), some (vI (nI 0))] [] (pI σ 368881 0 (fun q => if q < 0 then -1 else gI σ 368881 0 q)) = Vv 91 0 2 [some (vR 64 0), some (vI (nI 720))] [] (pI σ 368881 0 (fun q => if q < 720 then -1 else gI σ 368881 0 q)) := l1
  rw [e0] at l1
  exact l1
theorem k_spread {σ : St} {R : RF} (h : K0 σ R) {r : List Nat} (hr : r ∈ rws (nP R) (nL R) 0) (hrow : ∀ i, i < nL R → gI σ 3329 0 i = nI (r.getD i 0)) : ∃ σ', Cc 91 0 [vR 64 0] σ = some (none, σ') ∧ Fr sxS σ σ' ∧ BC σ' R (BF R r) := by
  have hbb := h.b
  have hLP := vp_le (vp_told h.1)
  have F1 : Fr sxS σ (pI σ 368881 0 (fun q => if q < 720 then -1 else gI σ 368881 0 q)) := Fr.rf.pI (fun _ => rfl)
  have D1 : ∀ q, q < 720 → gI (pI σ 368881 0 (fun q => if q < 720 then -1 else gI σ 368881 0 q)) 368881 0 q = -1 := fun q hq => by rw [gI_pIs, if_pos hq]
  have R1 : ∀ i, i < nL R → gI (pI σ 368881 0 (fun q => if q < 720 then -1 else gI σ 368881 0 q)) 3329 0 i = nI (r.getD i 0) := fun i hi => (gI_pIn (by decide)).trans (hrow i hi)
  have e0 : Cc 91 0 [vR 64 0] σ = Vv 91 0 24 [some (vR 64 0), some (vI 0)] [] (pI σ 368881 0 (fun q => if q < 720 then -1 else gI σ 368881 0 q)) := by
    have e72 : ¬ nI 720 < (720 : Int32) := by decide
    rw [c_Shifting_spread, k_dist2, v_Shifting_spread_2, if_neg e72]
  generalize pI σ 368881 0 (fun q => if q < 720 then -1 else gI σ 368881 0 q) = σ1 at F1 D1 R1 e0
  obtain ⟨σ2, c2, f2, n2⟩ := k_near24 (R := R) 6 0 σ1 (by omega) (K0_sc h (sx_up F1)) (fun q hq => by omega)
  have F2 : Fr sxS σ (sI (sI σ2 64 0 5 0) 64 0 6 0) := ((F1.tr (nr_sx f2)).sI rfl).sI rfl
  have B2 : BC (sI (sI σ2 64 0 5 0) 64 0 6 0) R [] := by
    refine ⟨K0_sc h (sx_up F2), ?_, gI_sIs _ _ _ _ _, fun k hk => (by cases hk), fun x hx => ?_, fun p hp => ?_⟩
    · rw [gI_sIj (by decide), gI_sIs]; rfl
    · rw [gI_sIn (by decide), gI_sIn (by decide), f2.i rfl, D1 _ (nmb_lt (by omega) (by omega) hx)]
      rfl
    · rw [gI_sIn (by decide), gI_sIn (by decide), n2 p hp]
  have V0 : BV R [] 0 := ⟨fun x hx => (by cases hx), List.nodup_nil, List.Pairwise.nil⟩
  obtain ⟨σ3, c3, f3, B3, r3⟩ := k_visit B2 V0 (by omega) hr (fun i hi => by
    rw [gI_sIn (by decide), gI_sIn (by decide), f2.i rfl]
    exact R1 i hi)
  obtain ⟨σ4, c4, f4, B4⟩ := k_bfs67 (R := R) 721 0 σ3 [(r, 0)] (by omega) B3 (BI_0 hr) (Nat.zero_le _)
  refine ⟨σ4, ?_, (F2.tr f3).tr f4, B4⟩
  have e6 : ¬ nI 6 < (6 : Int32) := by decide
  have c2 : Vv 91 0 24 [some (vR 64 0), some (vI 0)] [] σ1 = Vv 91 0 24 [some (vR 64 0), some (vI (nI 6))] [] σ2 := c2
  have c3 : Cc 94 0 [vR 64 0, vI 0] (sI (sI σ2 64 0 5 0) 64 0 6 0) = some (none, σ3) := c3
  rw [e0, c2, v_Shifting_spread_24, if_neg e6, c3, cV_s]
  exact c4
theorem k_fromTold {σ : St} {R : RF} (h : K0 σ R) : ∃ σ', Cc 89 0 [vR 64 0] σ = some (none, σ') ∧ Fr scC σ σ' ∧ BC σ' R (BF R (tld R)) := by
  obtain ⟨σ1, c1, f1, r1⟩ := k_fillAsTold h
  obtain ⟨σ2, c2, f2, B2⟩ := k_spread (K0_sc h (sn_sc f1)) (tld_mem h.1) (fun i hi => by rw [r1 i hi, tld_get hi])
  exact ⟨σ2, by rw [c_Shifting_spreadFromTold, c1, cV_s, c2, cV_s], (sn_sc f1).tr (sx_up f2), B2⟩
theorem t_reach {σ : St} {R : RF} (h : HV σ R) : RC 151 [] σ (vI (cond (decide (0 < nN R)) (nI (BF R (tld R)).length) (-2))) := by
  refine RC_of (by rw [c_H_reach, h_isTold h.1, cI_s, tv_ite]) (fun _ => ?_)
  obtain ⟨σ1, c1, f1, B1⟩ := k_fromTold h.1
  exact ⟨σ1, by rw [c1, cV_s, B1.2.1], f1⟩
theorem t_far {σ : St} {R : RF} (h : HV σ R) : RC 152 [] σ (vI (cond (decide (0 < nN R)) (nI (lsd (BF R (tld R)))) (-2))) := by
  refine RC_of (by rw [c_H_far, h_isTold h.1, cI_s, tv_ite]) (fun _ => ?_)
  obtain ⟨σ1, c1, f1, B1⟩ := k_fromTold h.1
  exact ⟨σ1, by rw [c1, cV_s, B1.2.2.1], f1⟩
