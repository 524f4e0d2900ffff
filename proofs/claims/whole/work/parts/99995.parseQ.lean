/-! THE CLASS: marks, the first line, any line -/
def prS (t i j : Nat) : Bool := rdS t i j || rfC 1 t i j
theorem rd_pr {σ σ' : St} (h : Fr rdS σ σ') : Fr prS σ σ' := h.up (fun t i j hq => by
  unfold prS at hq
  rw [Bool.or_eq_false_iff] at hq
  exact hq.1)
theorem rf_pr {σ σ' : St} (h : Fr (rfC 1) σ σ') : Fr prS σ σ' := h.up (fun t i j hq => by
  unfold prS at hq
  rw [Bool.or_eq_false_iff] at hq
  exact hq.2)
theorem lq_t {q t i j : Nat} (h1 : 5 ≤ q) (h2 : q ≤ 9) (h : lqS q t i j = true) : prS t i j = true := by
  unfold lqS at h
  unfold prS
  rw [Bool.or_eq_true] at h ⊢
  rcases h with h | h
  · exact Or.inl h
  · refine Or.inr ?_
    unfold pqC at h
    unfold rfC
    rw [Bool.and_eq_true] at h
    have hi := Nat.eq_of_beq_eq_true h.2
    rw [h.1, hi, Nat.ble_eq_true_of_le (show 5 * 1 ≤ q by omega), Nat.ble_eq_true_of_le (show q ≤ 5 * 1 + 4 by omega), Bool.and_true, Bool.and_true, Bool.or_true]
theorem lq_pr {q : Nat} (h1 : 5 ≤ q) (h2 : q ≤ 9) {σ σ' : St} (h : Fr (lqS q) σ σ') : Fr prS σ σ' := h.up (fun t i j hq => by
  cases hz : lqS q t i j
  · rfl
  · rw [lq_t h1 h2 hz] at hq
    cases hq)
theorem lqM_pr {σ σ' : St} (h : Fr lqM σ σ') : Fr prS σ σ' := h.up (fun t i j hq => by
  cases hz : lqM t i j
  · rfl
  · unfold lqM at hz
    rw [Bool.or_eq_true] at hz
    rcases hz with hz | hz
    · rw [lq_t (by omega) (by omega) hz] at hq
      cases hq
    · rw [Bool.and_eq_true] at hz
      rw [Nat.eq_of_beq_eq_true hz.1, Nat.eq_of_beq_eq_true hz.2] at hq
      cases hq)
theorem TD_pr {σ σ' : St} {t : TP} (h : TD σ t) (hf : Fr prS σ σ') : TD σ' t := ⟨(hf.i rfl).trans h.1, h.2.1, fun i hi => ⟨(hf.i rfl).trans (h.2.2 i hi).1, (h.2.2 i hi).2⟩⟩
theorem d_mark {σ : St} {t : TP} {p : Nat} {R : RF} (hB : TD σ t) (hH : HC σ 1 R) (hW : WF R) (h : KD σ t p) : ∃ σ', cI (Cc 57 0 [vR 40 0, vR 32 6] σ) (fun x22 σ21 => if x22 = 0 then retZ 0 σ21 else cI (Cc 58 0 [vR 40 0] σ21) (fun x24 σ23 => if x24 = 0 then retZ 0 σ23 else retZ 1 σ23)) = some (some (vI (tv (xB (th (rE (nM R) 7 t p) (pMk t R (ent t p)))))), σ') ∧ Fr prS σ σ' ∧ RQ σ' t (th (rE (nM R) 7 t p) (pMk t R (ent t p))) := by
  have hb := hW.1
  unfold WB at hb
  have hp : th (rE (nM R) 7 t p) (pMk t R (ent t p)) = th (oo (oo (oo (oo (oo (rE (nM R) 7 t p) (nE t 0 31 (ent t p))) (nE t 0 31 (ent t (ent t p)))) (dE (tkB R (vlt t (ent t p)) (vlt t (ent t (ent t p)))) t (ent t (ent t p)))) (wE t 10 (e3 t p))) (nE t 0 100 (e4 t p))) (.inr (e5 t p, R1 (A2 R 3 4 4 (vlt t (e1 t p)) (vlt t (e2 t p))) 5 (nM R) (vlt t (e4 t p)))) := by
    rw [th_oo, th_oo, th_oo, th_oo, th_oo]
    rfl
  rw [hp, xB_th]
  obtain ⟨_, p2, _, _, _⟩ := HC_pr hH
  obtain ⟨σ1, c1, f1, g1, a1⟩ := d_point hB hH hW h (q := 6) p2.1 (show pln (6 % 5) = 7 from rfl) hb.2.1 (by omega)
  rw [c1, cI_s, tv_ite]
  rcases oB_c (oo (oo (oo (rE (nM R) 7 t p) (nE t 0 31 (ent t p))) (nE t 0 31 (ent t (ent t p)))) (dE (tkB R (vlt t (ent t p)) (vlt t (ent t (ent t p)))) t (ent t (ent t p)))) with ⟨o1, b1⟩ | ⟨e, o1, b1⟩
  · obtain ⟨x1, x2, x3⟩ := a1 o1
    have hn7 := rE_n (oo_n (oo_n (oo_n o1).1).1).1
    rw [o1] at g1
    rw [b1, cond_true, o1, c_Reader_readWorth]
    have B1 : TD σ1 t := TD_lq hB f1
    obtain ⟨σ2, c2, f2, g2⟩ := d_word B1 g1 (k := 10) (by omega)
    rw [c2, cI_s, tv_ite]
    rcases oB_c (wE t 10 (e3 t p)) with ⟨o2, b2⟩ | ⟨e, o2, b2⟩
    · rw [o2] at g2
      rw [b2, cond_true, o2]
      have B2 := B1.rd f2
      obtain ⟨σ3, c3, f3, g3, v3⟩ := d_number B2 g2 (lo := 0) (hx := 100) (by omega) (by omega)
      have c3 : Cc 64 0 [vR 40 0, vI 0, vI 99] σ2 = some (some (vI (tv (oB (nE t 0 100 (e4 t p))))), σ3) := c3
      rw [c3, cI_s, tv_ite]
      rcases oB_c (nE t 0 100 (e4 t p)) with ⟨o3, b3⟩ | ⟨e, o3, b3⟩
      · rw [o3] at g3
        have F3 : Fr rdS σ1 σ3 := f2.tr f3
        have s3 : gI σ3 32 6 2 = nI (nM R + 1) := (F3.i rfl).trans x1
        have hset : Cc 75 0 [vR 48 1, vI (nI (nM R)), vI (nI (vlt t (e4 t p)))] σ3 = some (none, sI σ3 3705 1 (nM R) (nI (vlt t (e4 t p)))) := by
          rw [c_Roof_setWorth, show 5 * 1 + 1 = 6 from rfl, c_Pairs_has, if_neg (nI_pos (by omega)), s3, if_pos (nI_lt (by omega) (by omega)), retZ_1, cI_s, tv_ite, cond_true, ix_nI (by omega) (by omega)]
        rw [b3, cond_true, o3, s3, nI_m1, (v3 o3).1, hset, cV_s, retZ_1, cI_s, tv_ite, cond_true]
        have F4 : Fr lqM σ (sI σ3 3705 1 (nM R) (nI (vlt t (e4 t p)))) := (lq_M (f1.tr (rd_lq F3))).sI rfl
        refine ⟨_, rfl, lqM_pr F4, KD.d g3 (fun j => gI_sIn (by decide)), ?_⟩
        refine HC_aM hH F4 ?_ (fun j hj => ⟨?_, ?_⟩) ⟨?_, ?_⟩ (fun j hj => ?_) ?_
        · rw [gI_sIn (by decide)]; exact s3
        · rw [gI_sIn (by decide), F3.i rfl]; exact (x2 j hj).1
        · rw [gI_sIn (by decide), F3.i rfl]; exact (x2 j hj).2
        · rw [gI_sIn (by decide), F3.i rfl]; exact x3.1
        · rw [gI_sIn (by decide), F3.i rfl]; exact x3.2
        · rw [gI_sIj (by omega), F3.i rfl]; exact f1.i rfl
        · rw [gI_sIs]
      · rw [o3] at g3
        rw [b3, cond_false, o3, retZ_0, cI_s, tv_ite, cond_false]
        exact ⟨σ3, rfl, lqM_pr (lq_M (f1.tr (rd_lq (f2.tr f3)))), g3⟩
    · rw [o2] at g2
      rw [b2, cond_false, o2, retZ_0, cI_s, tv_ite, cond_false]
      exact ⟨σ2, rfl, lqM_pr (lq_M (f1.tr (rd_lq f2))), g2⟩
  · rw [o1] at g1
    rw [b1, cond_false, o1, retZ_0]
    exact ⟨σ1, rfl, lqM_pr (lq_M f1), g1⟩
theorem HC_tell {σ : St} {R : RF} (h : HC σ 1 R) {k : Nat} (hk : k < 3) (v : Nat) : HC (sI σ 48 1 k (nI v)) 1 (R1 R 0 k v) := by
  obtain ⟨h1, h2, h3, h4, h5, h6, h7, h8, h9, h10, h11, h12⟩ := h
  have q : ∀ j, R1 R 0 k v 0 j = if j = k then v else R 0 j := fun j => R1_a R 0 k v j
  have dd : ∀ d j, d ≠ 0 → R1 R 0 k v d j = R d j := fun d j hd => R1_x R hd j
  have hF : Fr (fun t i _ => Nat.beq t 48 && Nat.beq i 1) σ (sI σ 48 1 k (nI v)) := Fr.rf.sI rfl
  generalize R1 R 0 k v = Q at q dd ⊢
  have k3 : nP Q = nP R := (q 3).trans (if_neg (by omega))
  have k4 : nM Q = nM R := (q 4).trans (if_neg (by omega))
  have k5 : nF Q = nF R := (q 5).trans (if_neg (by omega))
  have k6 : nW Q = nW R := (q 6).trans (if_neg (by omega))
  have k7 : nL Q = nL R := (q 7).trans (if_neg (by omega))
  have k8 : nA Q = nA R := (q 8).trans (if_neg (by omega))
  have k9 : nN Q = nN R := (q 9).trans (if_neg (by omega))
  have cell : ∀ j, j < 3 → gI σ 48 1 j = nI (R 0 j) → gI (sI σ 48 1 k (nI v)) 48 1 j = nI (Q 0 j) := fun j hj hc => by
    rw [q, gI_sI]
    by_cases hjk : j = k
    · rw [if_pos ⟨rfl, rfl, hjk⟩, if_pos hjk]
    · rw [if_neg (fun z => hjk z.2.2), if_neg hjk]
      exact hc
  refine ⟨cell 0 (by omega) h1, cell 1 (by omega) h2, cell 2 (by omega) h3, by rw [k9, gI_sIj (by omega)]; exact h4, ?_, ?_, ?_, ?_, ?_, fun m hm => ?_, by rw [k8, hF.i rfl]; exact h11, fun i hi => ?_⟩
  · rw [k3]; exact PR_fr h5 hF (fun _ => ⟨rfl, rfl, rfl⟩) (fun i _ => ⟨dd 1 i (by decide), dd 2 i (by decide)⟩)
  · rw [k4]; exact PR_fr h6 hF (fun _ => ⟨rfl, rfl, rfl⟩) (fun i _ => ⟨dd 3 i (by decide), dd 4 i (by decide)⟩)
  · rw [k5]; exact PR_fr h7 hF (fun _ => ⟨rfl, rfl, rfl⟩) (fun i _ => ⟨dd 6 i (by decide), dd 7 i (by decide)⟩)
  · rw [k6]; exact PR_fr h8 hF (fun _ => ⟨rfl, rfl, rfl⟩) (fun i _ => ⟨dd 8 i (by decide), dd 9 i (by decide)⟩)
  · rw [k7]; exact PR_fr h9 hF (fun _ => ⟨rfl, rfl, rfl⟩) (fun i _ => ⟨dd 10 i (by decide), dd 11 i (by decide)⟩)
  · rw [k4] at hm
    rw [show mw Q m = mw R m from dd 5 m (by decide), hF.i rfl]
    exact h10 m hm
  · rw [k8] at hi
    rw [hF.i rfl, hF.i rfl, hF.i rfl, show ak Q i = ak R i from dd 12 i (by decide), show aa Q i = aa R i from dd 13 i (by decide), show ab Q i = ab R i from dd 14 i (by decide), show ay Q i = ay R i from dd 15 i (by decide)]
    exact h12 i hi
theorem HC_lines {σ : St} {R : RF} (h : HC σ 1 R) (N : Nat) : HC (sI σ 48 1 3 (nI N)) 1 (R1 R 0 9 N) := by
  obtain ⟨h1, h2, h3, h4, h5, h6, h7, h8, h9, h10, h11, h12⟩ := h
  have q : ∀ j, R1 R 0 9 N 0 j = if j = 9 then N else R 0 j := fun j => R1_a R 0 9 N j
  have dd : ∀ d j, d ≠ 0 → R1 R 0 9 N d j = R d j := fun d j hd => R1_x R hd j
  have hF : Fr (fun t i _ => Nat.beq t 48 && Nat.beq i 1) σ (sI σ 48 1 3 (nI N)) := Fr.rf.sI rfl
  generalize R1 R 0 9 N = Q at q dd ⊢
  have k0 : yr Q = yr R := q 0
  have ka : lw Q = lw R := q 1
  have kb : od Q = od R := q 2
  have k3 : nP Q = nP R := q 3
  have k4 : nM Q = nM R := q 4
  have k5 : nF Q = nF R := q 5
  have k6 : nW Q = nW R := q 6
  have k7 : nL Q = nL R := q 7
  have k8 : nA Q = nA R := q 8
  have k9 : nN Q = N := q 9
  refine ⟨by rw [k0, gI_sIj (by decide)]; exact h1, by rw [ka, gI_sIj (by decide)]; exact h2, by rw [kb, gI_sIj (by decide)]; exact h3, by rw [k9, gI_sIs], ?_, ?_, ?_, ?_, ?_, fun m hm => ?_, by rw [k8, hF.i rfl]; exact h11, fun i hi => ?_⟩
  · rw [k3]; exact PR_fr h5 hF (fun _ => ⟨rfl, rfl, rfl⟩) (fun i _ => ⟨dd 1 i (by decide), dd 2 i (by decide)⟩)
  · rw [k4]; exact PR_fr h6 hF (fun _ => ⟨rfl, rfl, rfl⟩) (fun i _ => ⟨dd 3 i (by decide), dd 4 i (by decide)⟩)
  · rw [k5]; exact PR_fr h7 hF (fun _ => ⟨rfl, rfl, rfl⟩) (fun i _ => ⟨dd 6 i (by decide), dd 7 i (by decide)⟩)
  · rw [k6]; exact PR_fr h8 hF (fun _ => ⟨rfl, rfl, rfl⟩) (fun i _ => ⟨dd 8 i (by decide), dd 9 i (by decide)⟩)
  · rw [k7]; exact PR_fr h9 hF (fun _ => ⟨rfl, rfl, rfl⟩) (fun i _ => ⟨dd 10 i (by decide), dd 11 i (by decide)⟩)
  · rw [k4] at hm
    rw [show mw Q m = mw R m from dd 5 m (by decide), hF.i rfl]
    exact h10 m hm
  · rw [k8] at hi
    rw [hF.i rfl, hF.i rfl, hF.i rfl, show ak Q i = ak R i from dd 12 i (by decide), show aa Q i = aa R i from dd 13 i (by decide), show ab Q i = ab R i from dd 14 i (by decide), show ay Q i = ay R i from dd 15 i (by decide)]
    exact h12 i hi
theorem d_rfl {σ : St} {t : TP} {p : Nat} {R : RF} (hB : TD σ t) (hH : HC σ 1 R) (h : KD σ t p) : ∃ σ', Cc 56 0 [vR 40 0] σ = some (some (vI (tv (xB (pRf t R p)))), σ') ∧ Fr prS σ σ' ∧ RQ σ' t (pRf t R p) := by
  have hp : pRf t R p = th (oo (oo (oo (oo (oo (oo (wE t 8 p) (wE t 11 (e1 t p))) (nE t 1 13 (e2 t p))) (wE t 3 (e3 t p))) (nE t 0 4 (e4 t p))) (wE t 6 (e5 t p))) (nE t 0 11 (e6 t p))) (.inr (e7 t p, R1 (R1 (R1 R 0 0 (vlt t (e2 t p))) 0 1 (vlt t (e4 t p))) 0 2 (vlt t (e6 t p)))) := by
    rw [th_oo, th_oo, th_oo, th_oo, th_oo, th_oo]
    rfl
  rw [hp, xB_th]
  obtain ⟨σ1, c1, f1, g1⟩ := d_word hB h (k := 8) (by omega)
  rw [c_Reader_readRoofLine, c1, cI_s, tv_ite]
  rcases oB_c (wE t 8 p) with ⟨o1, b1⟩ | ⟨e, o1, b1⟩
  · rw [o1] at g1
    rw [b1, cond_true, o1]
    have B1 := hB.rd f1
    have H1 := HC_rd hH f1
    obtain ⟨σ2, c2, f2, g2⟩ := d_word B1 g1 (k := 11) (by omega)
    rw [c2, cI_s, tv_ite]
    rcases oB_c (wE t 11 (e1 t p)) with ⟨o2, b2⟩ | ⟨e, o2, b2⟩
    · rw [o2] at g2
      rw [b2, cond_true, o2]
      have B2 := B1.rd f2
      have H2 := HC_rd H1 f2
      obtain ⟨σ3, c3, f3, g3, v3⟩ := d_number B2 g2 (lo := 1) (hx := 13) (by omega) (by omega)
      have c3 : Cc 64 0 [vR 40 0, vI 1, vI 12] σ2 = some (some (vI (tv (oB (nE t 1 13 (e2 t p))))), σ3) := c3
      rw [c3, cI_s, tv_ite]
      rcases oB_c (nE t 1 13 (e2 t p)) with ⟨o3, b3⟩ | ⟨e, o3, b3⟩
      · rw [o3] at g3
        rw [b3, cond_true, o3, (v3 o3).1]
        have H3 := HC_tell (HC_rd H2 f3) (k := 0) (by omega) (vlt t (e2 t p))
        have F3 : Fr prS σ (sI σ3 48 1 0 (nI (vlt t (e2 t p)))) := (rd_pr ((f1.tr f2).tr f3)).sI rfl
        have B3 := TD_pr hB F3
        have G3 : KD (sI σ3 48 1 0 (nI (vlt t (e2 t p)))) t (e3 t p) := KD.d g3 (fun j => gI_sIn (by decide))
        generalize sI σ3 48 1 0 (nI (vlt t (e2 t p))) = τ3 at H3 F3 B3 G3
        obtain ⟨σ4, c4, f4, g4⟩ := d_word B3 G3 (k := 3) (by omega)
        rw [c4, cI_s, tv_ite]
        rcases oB_c (wE t 3 (e3 t p)) with ⟨o4, b4⟩ | ⟨e, o4, b4⟩
        · rw [o4] at g4
          rw [b4, cond_true, o4]
          have B4 := B3.rd f4
          have H4 := HC_rd H3 f4
          obtain ⟨σ5, c5, f5, g5, v5⟩ := d_number B4 g4 (lo := 0) (hx := 4) (by omega) (by omega)
          have c5 : Cc 64 0 [vR 40 0, vI 0, vI 3] σ4 = some (some (vI (tv (oB (nE t 0 4 (e4 t p))))), σ5) := c5
          rw [c5, cI_s, tv_ite]
          rcases oB_c (nE t 0 4 (e4 t p)) with ⟨o5, b5⟩ | ⟨e, o5, b5⟩
          · rw [o5] at g5
            rw [b5, cond_true, o5, (v5 o5).1]
            have H5 := HC_tell (HC_rd H4 f5) (k := 1) (by omega) (vlt t (e4 t p))
            have F5 : Fr prS σ (sI σ5 48 1 1 (nI (vlt t (e4 t p)))) := (F3.tr (rd_pr (f4.tr f5))).sI rfl
            have B5 := TD_pr hB F5
            have G5 : KD (sI σ5 48 1 1 (nI (vlt t (e4 t p)))) t (e5 t p) := KD.d g5 (fun j => gI_sIn (by decide))
            generalize sI σ5 48 1 1 (nI (vlt t (e4 t p))) = τ5 at H5 F5 B5 G5
            obtain ⟨σ6, c6, f6, g6⟩ := d_word B5 G5 (k := 6) (by omega)
            rw [c6, cI_s, tv_ite]
            rcases oB_c (wE t 6 (e5 t p)) with ⟨o6, b6⟩ | ⟨e, o6, b6⟩
            · rw [o6] at g6
              rw [b6, cond_true, o6]
              have B6 := B5.rd f6
              have H6 := HC_rd H5 f6
              obtain ⟨σ7, c7, f7, g7, v7⟩ := d_number B6 g6 (lo := 0) (hx := 11) (by omega) (by omega)
              have c7 : Cc 64 0 [vR 40 0, vI 0, vI 10] σ6 = some (some (vI (tv (oB (nE t 0 11 (e6 t p))))), σ7) := c7
              rw [c7, cI_s, tv_ite]
              rcases oB_c (nE t 0 11 (e6 t p)) with ⟨o7, b7⟩ | ⟨e, o7, b7⟩
              · rw [o7] at g7
                rw [b7, cond_true, o7, (v7 o7).1, retZ_1]
                exact ⟨_, rfl, (F5.tr (rd_pr (f6.tr f7))).sI rfl, KD.d g7 (fun j => gI_sIn (by decide)), HC_tell (HC_rd H6 f7) (k := 2) (by omega) (vlt t (e6 t p))⟩
              · rw [o7] at g7
                rw [b7, cond_false, o7, retZ_0]
                exact ⟨σ7, rfl, F5.tr (rd_pr (f6.tr f7)), g7⟩
            · rw [o6] at g6
              rw [b6, cond_false, o6, retZ_0]
              exact ⟨σ6, rfl, F5.tr (rd_pr f6), g6⟩
          · rw [o5] at g5
            rw [b5, cond_false, o5, retZ_0]
            exact ⟨σ5, rfl, F3.tr (rd_pr (f4.tr f5)), g5⟩
        · rw [o4] at g4
          rw [b4, cond_false, o4, retZ_0]
          exact ⟨σ4, rfl, F3.tr (rd_pr f4), g4⟩
      · rw [o3] at g3
        rw [b3, cond_false, o3, retZ_0]
        exact ⟨σ3, rfl, rd_pr ((f1.tr f2).tr f3), g3⟩
    · rw [o2] at g2
      rw [b2, cond_false, o2, retZ_0]
      exact ⟨σ2, rfl, rd_pr (f1.tr f2), g2⟩
  · rw [o1] at g1
    rw [b1, cond_false, o1, retZ_0]
    exact ⟨σ1, rfl, rd_pr f1, g1⟩
