/-! THE REFERENCE: a looker's line, any line -/
theorem x_lk21 {t : TP} {q : Nat} {R : RF} (hW : WF R) (l1 : Int32) : ∀ (k l : Nat) (σ : St) (o : OE), l + k = nL R → TB σ t → HM σ 4 R → RG σ t o q → ∃ σ', Vv 232 0 21 [some (vR 96 0), some (vI l1), some (vI (nI l))] [] σ = Vv 232 0 21 [some (vR 96 0), some (vI l1), some (vI (nI (nL R)))] [] σ' ∧ Fr pmS σ σ' ∧ RG σ' t (oo o (dE (Nat.beq (knt t q) 2 && decide (fr (fun i => Nat.beq (lp R i) (vlt t q)) k l < l + k)) t q)) q
  | 0, l, σ, o, hl, hB, hH, h => by
    have hl : l = nL R := by omega
    subst hl
    have e1 : decide (fr (fun i => Nat.beq (lp R i) (vlt t q)) 0 (nL R) < nL R + 0) = false := decide_eq_false (by show ¬ nL R < nL R + 0; omega)
    refine ⟨σ, rfl, Fr.rf, ?_⟩
    rw [e1, Bool.and_false]
    cases o <;> exact h
  | k + 1, l, σ, o, hl, hB, hH, h => by
    have hb := hW.1
    unfold WB at hb
    have r7 : Cc 226 0 [vR 96 0, vI 7] σ = some (some (vI (nI (nL R))), σ) := s_hasRead hH (k := 7) (by omega)
    have em : (2 : Int32) * ((24 : Int32) + nI l) = nI (2 * (24 + l)) := e_2m 24 _
    have hc := (hH.2.2.2.2.2.2.1 l (by omega)).1
    have hlp := (hW.2.2.2.2.2.2.1 l (show l < nL R by omega)).1
    rw [v_M_lookerLine_21, r7, cI_s, if_pos (nI_lt (by omega) (by omega)), em, nI_1, ix_nI (by omega) (by omega), show 2 * (24 + l) = 2 * l + 12 * 4 by omega, hc, fr_d]
    cases o with
    | some e =>
      have h' : PBd σ e := h
      obtain ⟨σ1, c1, f1, g1⟩ := x_lk21 hW l1 k (l + 1) σ (some e) (by omega) hB hH h
      rw [if_neg h'.ne]
      exact ⟨σ1, c1, f1, g1⟩
    | none =>
      have h' : PG σ t q := h
      have hkn : knt t q ≤ 5 := by
        unfold knt kd
        split
        · exact (bk_le _).2
        · omega
      rw [if_pos h'.1, h'.2.1.2.1]
      by_cases q2 : knt t q = 2
      · have hv := h'.2.1.2.2.2.1 q2
        have b2 : Nat.beq (knt t q) 2 = true := by rw [q2]; rfl
        rw [if_pos (by rw [q2]; rfl)]
        by_cases q3 : vlt t q = lp R l
        · have hx : gI σ 96 0 10 = nI (lp R l) := by rw [RV_eq hv (by omega)]; exact q3
          obtain ⟨σ1, c1, f1, b1⟩ := g_fails hB h' (k := 2) (by omega) (by omega)
          have c1 : Cc 216 0 [vR 96 0, vI 2] σ = some (none, σ1) := c1
          obtain ⟨σ2, c2, f2, g2⟩ := x_lk21 hW l1 k (l + 1) σ1 (some (2, stt t q)) (by omega) (hB.pm f1) (HM_pm hH f1) b1
          rw [if_pos hx, c1, cV_s, b2, q3, Nat.beq_refl, Bool.true_or, Bool.true_and]
          exact ⟨σ2, c2, f1.tr f2, g2⟩
        · have hx : ¬ gI σ 96 0 10 = nI (lp R l) := by rw [RV_eq hv (by omega)]; exact q3
          have bq : Nat.beq (lp R l) (vlt t q) = false := by
            cases hz : Nat.beq (lp R l) (vlt t q)
            · rfl
            · exact absurd (Nat.eq_of_beq_eq_true hz).symm q3
          obtain ⟨σ2, c2, f2, g2⟩ := x_lk21 hW l1 k (l + 1) σ none (by omega) hB hH h
          rw [if_neg hx, bq, Bool.false_or]
          exact ⟨σ2, c2, f2, g2⟩
      · have b2 : Nat.beq (knt t q) 2 = false := by
          cases hz : Nat.beq (knt t q) 2
          · rfl
          · exact absurd (Nat.eq_of_beq_eq_true hz) q2
        obtain ⟨σ2, c2, f2, g2⟩ := x_lk21 hW l1 k (l + 1) σ none (by omega) hB hH h
        rw [b2, Bool.false_and] at g2
        rw [if_neg (q_n2 (by omega) q2), b2, Bool.false_and]
        exact ⟨σ2, c2, f2, g2⟩
theorem lk_oo {t : TP} {R : RF} (hW : WF R) (o : OE) (q : Nat) : oo (oo o (dE (Nat.beq (knt t q) 2 && ex (fun i => Nat.beq (lp R i) (vlt t q)) (nL R)) t q)) (nE t 0 (nP R) q) = oo (oo o (nE t 0 (nP R) q)) (dE (ex (fun i => Nat.beq (lp R i) (vlt t q)) (nL R)) t q) := by
  cases o with
  | some e => rfl
  | none =>
    show oo (dE (Nat.beq (knt t q) 2 && ex (fun i => Nat.beq (lp R i) (vlt t q)) (nL R)) t q) (nE t 0 (nP R) q) = oo (nE t 0 (nP R) q) (dE (ex (fun i => Nat.beq (lp R i) (vlt t q)) (nL R)) t q)
    cases hx : ex (fun i => Nat.beq (lp R i) (vlt t q)) (nL R)
    · rw [Bool.and_false]
      show nE t 0 (nP R) q = oo (nE t 0 (nP R) q) none
      cases nE t 0 (nP R) q <;> rfl
    · rw [Bool.and_true]
      unfold nE
      cases hk : Nat.beq (knt t q) 2
      · rfl
      · obtain ⟨l, hl, e⟩ := ex_iff.mp hx
        have e := Nat.eq_of_beq_eq_true e
        have hlp := (hW.2.2.2.2.2.2.1 l hl).1
        rw [show Nat.ble 0 (vlt t q) = true from rfl, show Nat.blt (vlt t q) (nP R) = true from Nat.ble_eq_true_of_le (by omega)]
        rfl
theorem x_lookerLine {σ : St} {t : TP} {p : Nat} {R : RF} (hB : TB σ t) (hH : HM σ 4 R) (hW : WF R) (h : PG σ t p) (hn : nL R < 6) : ∃ σ', Cc 232 0 [vR 96 0] σ = some (none, σ') ∧ Fr pcS σ σ' ∧ RP σ' t (pLk t R p) := by
  have hb := hW.1
  unfold WB at hb
  obtain ⟨σ1, c1, f1, g1⟩ := x_asks (o := none) hB h (k := 0) (by omega) (x := 47) rfl
  have g1 : RG σ1 t (wE t 0 p) (ent t p) := g1
  have B1 := hB.pm f1
  have H1 := HM_pm hH f1
  obtain ⟨σ2, c2, f2, g2⟩ := x_lk21 hW (nI (2 * (24 + nL R))) (nL R) 0 σ1 (wE t 0 p) (by omega) B1 H1 g1
  have B2 := B1.pm f2
  have H2 := HM_pm H1 f2
  have ex0 : decide (fr (fun i => Nat.beq (lp R i) (vlt t (ent t p))) (nL R) 0 < 0 + nL R) = ex (fun i => Nat.beq (lp R i) (vlt t (ent t p))) (nL R) := by
    unfold ex
    rw [Nat.zero_add]
  rw [ex0] at g2
  obtain ⟨σ3, v, c3, f3, g3, v3⟩ := x_placeHere B2 H2 g2 (by omega)
  rw [lk_oo hW] at g3 v3
  have r7 : Cc 226 0 [vR 96 0, vI 7] σ = some (some (vI (nI (nL R))), σ) := s_hasRead hH (k := 7) (by omega)
  have r72 : Cc 226 0 [vR 96 0, vI 7] σ2 = some (some (vI (nI (nL R))), σ2) := s_hasRead H2 (k := 7) (by omega)
  have H3 := HM_pm H2 f3
  have B3 := B2.pm f3
  have H3' : ∀ k, k < 9 → gI (sI σ3 31113 0 (2 * (24 + nL R)) (nI v)) 23385 0 (k + 9 * 4) = nI (R 0 k) := fun k hk => (gI_sIn (by decide)).trans (H3.1 k hk)
  have r4 : Cc 226 0 [vR 96 0, vI 4] (sI σ3 31113 0 (2 * (24 + nL R)) (nI v)) = some (some (vI (nI (nM R))), sI σ3 31113 0 (2 * (24 + nL R)) (nI v)) := by
    rw [c_M_hasRead, show (36 : Int32) + 4 = nI 40 from rfl, ix_nI (by omega) (by omega), show 40 = 4 + 9 * 4 from rfl, H3' 4 (by omega)]
  have B4 : TB (sI σ3 31113 0 (2 * (24 + nL R)) (nI v)) t := TB_d B3 (gI_sIn (by decide)) (fun j => gI_sIn (by decide))
  have G4 : RG (sI σ3 31113 0 (2 * (24 + nL R)) (nI v)) t _ (ent t (ent t p)) := g3.d (fun j => gI_sIn (by decide)) (fun _ => rfl)
  obtain ⟨σ5, w, c5, f5, g5, v5⟩ := x_number2 B4 G4 (k := 2) (by omega) (x := 4558591) rfl (lo := 0) (hi := nM R) (by omega) (by omega)
  have c5 : Cc 221 0 [vR 96 0, vL 4558591, vI 0, vI (nI (nM R) - 1)] (sI σ3 31113 0 (2 * (24 + nL R)) (nI v)) = some (some (vI (nI w)), σ5) := c5
  have r75 : Cc 226 0 [vR 96 0, vI 7] (sI σ5 31113 0 (2 * (24 + nL R) + 1) (nI w)) = some (some (vI (nI (nL R))), sI σ5 31113 0 (2 * (24 + nL R) + 1) (nI w)) := by
    rw [c_M_hasRead, show (36 : Int32) + 7 = nI 43 from rfl, ix_nI (by omega) (by omega), gI_sIn (by decide), f5.i rfl, show 43 = 7 + 9 * 4 from rfl, H3' 7 (by omega)]
  have t7 := s_tells (sI σ5 31113 0 (2 * (24 + nL R) + 1) (nI w)) (k := 7) (by omega) (nI (nL R + 1))
  have t7 : Cc 227 0 [vR 96 0, vI 7, vI (nI (nL R + 1))] (sI σ5 31113 0 (2 * (24 + nL R) + 1) (nI w)) = some (none, sI (sI σ5 31113 0 (2 * (24 + nL R) + 1) (nI w)) 23385 0 43 (nI (nL R + 1))) := t7
  have em : (2 : Int32) * ((24 : Int32) + nI (nL R)) = nI (2 * (24 + nL R)) := e_2m 24 _
  have f123 : Fr pmS σ σ3 := (f1.tr f2).tr f3
  refine ⟨sI (sI σ5 31113 0 (2 * (24 + nL R) + 1) (nI w)) 23385 0 43 (nI (nL R + 1)), ?_, (((((pm_pc f123).sI (pc_m_man (by omega) 0)).tr (pm_pc f5)).sI (pc_m_man (by omega) 0)).sI rfl), ?_⟩
  · rw [c_M_lookerLine, r7, cI_s, c1, cV_s, em]
    refine Eq.trans c2 ?_
    rw [v_M_lookerLine_21, r72, cI_s, if_neg (nI_nlt (Nat.le_refl _) (by omega)), c3, cI_s, ix_nI (by omega) (by omega), r4, cI_s, c5, cI_s, nI_1, ix_nI (by omega) (by omega), r75, cI_s, nI_1, t7, cV_s]
  · have hp : pLk t R p = th (oo (oo (oo (oo (wE t 0 p) (nE t 0 (nP R) (ent t p))) (dE (ex (fun i => Nat.beq (lp R i) (vlt t (ent t p))) (nL R)) t (ent t p))) (wE t 2 (ent t (ent t p)))) (nE t 0 (nM R) (ent t (ent t (ent t p))))) (.inr (e4 t p, A2 R 10 11 7 (vlt t (e1 t p)) (vlt t (e3 t p)))) := by
      rw [th_oo, th_oo, th_oo, th_oo]
      rfl
    rw [hp]
    refine RP_th (g5.d (fun j => (gI_sIn (by decide)).trans (gI_sIn (by decide))) (fun _ => rfl)) (fun z => ?_)
    have z1 := oo_n (oo_n z).1
    rw [show vlt t (ent t p) = v from (v3 z1.1).symm, show vlt t (ent t (ent t (ent t p))) = w from (v5 z).symm]
    refine HM_aL hH (fun j => ?_) (fun j => ?_) (fun j => ?_)
    · rw [gI_sI]
      by_cases hj : j = 43
      · rw [if_pos ⟨rfl, rfl, hj⟩, if_pos hj]
      · rw [if_neg (fun z => hj z.2.2), if_neg hj, gI_sIn (by decide), f5.i rfl, gI_sIn (by decide), f123.i rfl]
    · rw [gI_sIn (by decide), gI_sI]
      by_cases hj : j = 2 * (24 + nL R) + 1
      · rw [if_pos ⟨rfl, rfl, hj⟩, if_pos hj]
      · rw [if_neg (fun z => hj z.2.2), if_neg hj, f5.i rfl, gI_sI]
        by_cases hj2 : j = 2 * (24 + nL R)
        · rw [if_pos ⟨rfl, rfl, hj2⟩, if_pos hj2]
        · rw [if_neg (fun z => hj2 z.2.2), if_neg hj2, f123.i rfl]
    · refine ⟨?_, ?_, ?_, ?_, ?_, ?_, ?_⟩
      all_goals rw [gI_sIn (by decide), gI_sIn (by decide), f5.i rfl, gI_sIn (by decide), f123.i rfl]
/-- a line that is not good any more does nothing -/
theorem b_240 {σ : St} {e : Nat × Nat} (h : PBd σ e) : Vv 234 0 240 [some (vR 96 0), none] [] σ = some (none, σ) := by rw [v_M_lineHere_240, if_neg h.ne]
theorem b_208 {σ : St} {e : Nat × Nat} (h : PBd σ e) : Vv 234 0 208 [some (vR 96 0), none] [] σ = some (none, σ) := by rw [v_M_lineHere_208, if_neg h.ne, b_240 h]
theorem b_176 {σ : St} {e : Nat × Nat} (h : PBd σ e) : Vv 234 0 176 [some (vR 96 0), none] [] σ = some (none, σ) := by rw [v_M_lineHere_176, if_neg h.ne, b_208 h]
theorem b_121 {σ : St} {e : Nat × Nat} (h : PBd σ e) : Vv 234 0 121 [some (vR 96 0), none] [] σ = some (none, σ) := by rw [v_M_lineHere_121, if_neg h.ne, b_176 h]
theorem b_48 {σ : St} {e : Nat × Nat} (h : PBd σ e) : Vv 234 0 48 [some (vR 96 0), none] [] σ = some (none, σ) := by rw [v_M_lineHere_48, if_neg h.ne, b_121 h]
theorem rE_full {n most : Nat} {t : TP} {p : Nat} (h : Nat.beq n most = true) : rE n most t p = some (3, stt t p) := by
  unfold rE
  rw [h]
  rfl
theorem rE_room {n most : Nat} {t : TP} {p : Nat} (h : Nat.beq n most = false) : rE n most t p = none := by
  unfold rE
  rw [h]
  rfl
theorem x_line {σ : St} {t : TP} {p : Nat} {R : RF} (hB : TB σ t) (hH : HM σ 4 R) (hW : WF R) (h : PG σ t p) : ∃ σ', Cc 234 0 [vR 96 0] σ = some (none, σ') ∧ Fr pcS σ σ' ∧ RP σ' t (pLn t R p) := by
  have hb := hW.1
  unfold WB at hb
  have i7 := g_is h (k := 7) (by omega) (x := 8740067) rfl
  have i5 := g_is h (k := 5) (by omega) (x := 257105) rfl
  have i1 := g_is h (k := 1) (by omega) (x := 127418) rfl
  have i9 := g_is h (k := 9) (by omega) (x := 16819) rfl
  have i4 := g_is h (k := 4) (by omega) (x := 180461916) rfl
  have n0 := x_noRoom (σ := σ)
  have t1 : tv true = 1 := rfl
  have t0 : tv false = 0 := rfl
  unfold pLn
  rw [c_M_lineHere, i7, cI_s]
  cases w7 : isW t p 7
  · rw [t0, n0, cI_s, tv_ite, cond_false, v_M_lineHere_48, if_pos h.1, i5, cI_s, cond_false]
    cases w5 : isW t p 5
    · rw [t0, n0, cI_s, tv_ite, cond_false, v_M_lineHere_121, if_pos h.1, i1, cI_s, cond_false]
      cases w1 : isW t p 1
      · rw [t0, n0, cI_s, tv_ite, cond_false, v_M_lineHere_176, if_pos h.1, i9, cI_s, cond_false]
        cases w9 : isW t p 9
        · rw [t0, n0, cI_s, tv_ite, cond_false, v_M_lineHere_208, if_pos h.1, i4, cI_s, cond_false]
          cases w4 : isW t p 4
          · obtain ⟨σ1, c1, f1, b1⟩ := g_fails hB h (k := 1) (by omega) (by omega)
            have c1 : Cc 216 0 [vR 96 0, vI 1] σ = some (none, σ1) := c1
            rw [t0, n0, cI_s, tv_ite, cond_false, v_M_lineHere_240, if_pos h.1, c1, cV_s, cond_false]
            exact ⟨σ1, rfl, pm_pc f1, b1⟩
          · obtain ⟨σ1, c1, f1, g1⟩ := x_isRoom hB hH h (k := 7) (most := 6) (by omega) hb.2.2.2.2.1 (by omega)
            have c1 : Cc 233 0 [vR 96 0, vI 1, vI 7, vI 6] σ = some (some (vI (tv (!Nat.beq (nL R) 6))), σ1) := c1
            have g1 : RG σ1 t (rE (nL R) 6 t p) (ent t p) := g1
            rw [t1, c1, cI_s, tv_ite, cond_true]
            cases hq : Nat.beq (nL R) 6
            · rw [rE_room hq] at g1 ⊢
              have hne := Nat.ne_of_beq_eq_false hq
              obtain ⟨σ2, c2, f2, r2⟩ := x_lookerLine (hB.pm f1) (HM_pm hH f1) hW g1 (by omega)
              rw [show (!false) = true from rfl, cond_true, c2, cV_s]
              exact ⟨σ2, rfl, (pm_pc f1).tr f2, r2⟩
            · rw [rE_full hq] at g1 ⊢
              have g1 : PBd σ1 (3, stt t p) := g1
              rw [show (!true) = false from rfl, cond_false, b_240 g1]
              exact ⟨σ1, rfl, pm_pc f1, g1⟩
        · obtain ⟨σ1, c1, f1, g1⟩ := x_isRoom hB hH h (k := 6) (most := 10) (by omega) hb.2.2.2.1 (by omega)
          have c1 : Cc 233 0 [vR 96 0, vI 1, vI 6, vI 10] σ = some (some (vI (tv (!Nat.beq (nW R) 10))), σ1) := c1
          have g1 : RG σ1 t (rE (nW R) 10 t p) (ent t p) := g1
          rw [t1, c1, cI_s, tv_ite, cond_true]
          cases hq : Nat.beq (nW R) 10
          · rw [rE_room hq] at g1 ⊢
            have hne := Nat.ne_of_beq_eq_false hq
            obtain ⟨σ2, c2, f2, r2⟩ := x_wayLine (hB.pm f1) (HM_pm hH f1) hW g1 (by omega)
            rw [show (!false) = true from rfl, cond_true, c2, cV_s]
            exact ⟨σ2, rfl, (pm_pc f1).tr f2, r2⟩
          · rw [rE_full hq] at g1 ⊢
            have g1 : PBd σ1 (3, stt t p) := g1
            rw [show (!true) = false from rfl, cond_false, b_208 g1]
            exact ⟨σ1, rfl, pm_pc f1, g1⟩
      · obtain ⟨σ1, c1, f1, g1⟩ := x_isRoom hB hH h (k := 5) (most := 6) (by omega) hb.2.2.1 (by omega)
        have c1 : Cc 233 0 [vR 96 0, vI 1, vI 5, vI 6] σ = some (some (vI (tv (!Nat.beq (nF R) 6))), σ1) := c1
        have g1 : RG σ1 t (rE (nF R) 6 t p) (ent t p) := g1
        rw [t1, c1, cI_s, tv_ite, cond_true]
        cases hq : Nat.beq (nF R) 6
        · rw [rE_room hq] at g1 ⊢
          have hne := Nat.ne_of_beq_eq_false hq
          have H1 := HM_pm hH f1
          have r5 : Cc 226 0 [vR 96 0, vI 5] σ1 = some (some (vI (nI (nF R))), σ1) := s_hasRead H1 (k := 5) (by omega)
          obtain ⟨σ2, x, y, c2, f2, d2, g2, v2⟩ := x_point_2 (hB.pm f1) H1 hW g1 (by omega)
          have r52 : Cc 226 0 [vR 96 0, vI 5] σ2 = some (some (vI (nI (nF R))), σ2) := by
            rw [c_M_hasRead, show (36 : Int32) + 5 = nI 41 from rfl, ix_nI (by omega) (by omega), f2.i rfl, show 41 = 5 + 9 * 4 from rfl, H1.1 5 (by omega)]
          have t5 := s_tells σ2 (k := 5) (by omega) (nI (nF R + 1))
          have t5 : Cc 227 0 [vR 96 0, vI 5, vI (nI (nF R + 1))] σ2 = some (none, sI σ2 23385 0 41 (nI (nF R + 1))) := t5
          rw [show (!false) = true from rfl, cond_true, r5, cI_s, show (24 : Int32) + nI (nF R) = nI (24 + nF R) from nI_add 24 _, c2, cV_s, r52, cI_s, nI_1, t5, cV_s]
          refine ⟨_, rfl, ((pm_pc f1).tr (ap_m_flueXY f2)).sI rfl, ?_⟩
          show RP _ t (pPt t R 6 7 5 (ent t p))
          have hp : pPt t R 6 7 5 (ent t p) = th (oo (oo (nE t 0 31 (ent t p)) (nE t 0 31 (ent t (ent t p)))) (dE (tkB R (vlt t (ent t p)) (vlt t (ent t (ent t p)))) t (ent t (ent t p)))) (.inr (e2 t (ent t p), A2 R 6 7 5 (vlt t (ent t p)) (vlt t (ent t (ent t p))))) := by
            rw [th_oo, th_oo]
            rfl
          rw [hp]
          refine RP_th (g2.d (fun j => gI_sIn (by decide)) (fun _ => rfl)) (fun z => ?_)
          rw [← (v2 z).1, ← (v2 z).2]
          refine HM_aF H1 (fun j => ?_) (fun j => ?_) (fun j => ?_)
          · rw [gI_sI]
            by_cases hj : j = 41
            · rw [if_pos ⟨rfl, rfl, hj⟩, if_pos hj]
            · rw [if_neg (fun z => hj z.2.2), if_neg hj, f2.i rfl]
          · rw [gI_sIn (by decide), d2]
          · refine ⟨?_, ?_, ?_, ?_, ?_, ?_, ?_⟩
            all_goals rw [gI_sIn (by decide), f2.i rfl]
        · rw [rE_full hq] at g1 ⊢
          have g1 : PBd σ1 (3, stt t p) := g1
          rw [show (!true) = false from rfl, cond_false, b_176 g1]
          exact ⟨σ1, rfl, pm_pc f1, g1⟩
    · obtain ⟨σ1, c1, f1, g1⟩ := x_isRoom hB hH h (k := 4) (most := 7) (by omega) hb.2.1 (by omega)
      have c1 : Cc 233 0 [vR 96 0, vI 1, vI 4, vI 7] σ = some (some (vI (tv (!Nat.beq (nM R) 7))), σ1) := c1
      have g1 : RG σ1 t (rE (nM R) 7 t p) (ent t p) := g1
      rw [t1, c1, cI_s, tv_ite, cond_true]
      cases hq : Nat.beq (nM R) 7
      · rw [rE_room hq] at g1 ⊢
        have hne := Nat.ne_of_beq_eq_false hq
        have H1 := HM_pm hH f1
        have r4 : Cc 226 0 [vR 96 0, vI 4] σ1 = some (some (vI (nI (nM R))), σ1) := s_hasRead H1 (k := 4) (by omega)
        obtain ⟨σ2, x, y, c2, f2, d2, g2, v2⟩ := x_point_1 (hB.pm f1) H1 hW g1 (by omega)
        have B2 : TB σ2 t := TB_d (hB.pm f1) (f2.i rfl) (fun j => f2.i rfl)
        obtain ⟨σ3, w, c3, f3, g3, e3⟩ := x_number2 B2 g2 (k := 10) (by omega) (x := 12532058) rfl (lo := 0) (hi := 100) (by omega) (by omega)
        have c3 : Cc 221 0 [vR 96 0, vL 12532058, vI 0, vI 99] σ2 = some (some (vI (nI w)), σ3) := c3
        have r43 : Cc 226 0 [vR 96 0, vI 4] (sI σ3 18289 0 (28 + nM R) (nI w)) = some (some (vI (nI (nM R))), sI σ3 18289 0 (28 + nM R) (nI w)) := by
          rw [c_M_hasRead, show (36 : Int32) + 4 = nI 40 from rfl, ix_nI (by omega) (by omega), gI_sIn (by decide), f3.i rfl, f2.i rfl, show 40 = 4 + 9 * 4 from rfl, H1.1 4 (by omega)]
        have t4 := s_tells (sI σ3 18289 0 (28 + nM R) (nI w)) (k := 4) (by omega) (nI (nM R + 1))
        have t4 : Cc 227 0 [vR 96 0, vI 4, vI (nI (nM R + 1))] (sI σ3 18289 0 (28 + nM R) (nI w)) = some (none, sI (sI σ3 18289 0 (28 + nM R) (nI w)) 23385 0 40 (nI (nM R + 1))) := t4
        rw [show (!false) = true from rfl, cond_true, r4, cI_s, show (28 : Int32) + nI (nM R) = nI (28 + nM R) from nI_add 28 _, c2, cV_s, c3, cI_s, ix_nI (by omega) (by omega), r43, cI_s, nI_1, t4, cV_s]
        refine ⟨_, rfl, ((((pm_pc f1).tr (ap_m_markXY f2)).tr (pm_pc f3)).sI (pc_m_markWorth (by omega) 0)).sI rfl, ?_⟩
        show RP _ t (pMk t R (ent t p))
        have hp : pMk t R (ent t p) = th (oo (oo (oo (oo (nE t 0 31 (ent t p)) (nE t 0 31 (ent t (ent t p)))) (dE (tkB R (vlt t (ent t p)) (vlt t (ent t (ent t p)))) t (ent t (ent t p)))) (wE t 10 (ent t (ent t (ent t p))))) (nE t 0 100 (ent t (ent t (ent t (ent t p)))))) (.inr (e4 t (ent t p), R1 (A2 R 3 4 4 (vlt t (ent t p)) (vlt t (ent t (ent t p)))) 5 (nM R) (vlt t (ent t (ent t (ent t (ent t p))))))) := by
          rw [th_oo, th_oo, th_oo, th_oo]
          rfl
        rw [hp]
        refine RP_th (g3.d (fun j => (gI_sIn (by decide)).trans (gI_sIn (by decide))) (fun _ => rfl)) (fun z => ?_)
        have z1 := oo_n (oo_n z).1
        rw [← (v2 z1.1).1, ← (v2 z1.1).2, ← e3 z]
        refine HM_aM H1 (fun j => ?_) (fun j => ?_) (fun j => ?_) (fun j => ?_)
        · rw [gI_sI]
          by_cases hj : j = 40
          · rw [if_pos ⟨rfl, rfl, hj⟩, if_pos hj]
          · rw [if_neg (fun z => hj z.2.2), if_neg hj, gI_sIn (by decide), f3.i rfl, f2.i rfl]
        · rw [gI_sIn (by decide), gI_sIn (by decide), f3.i rfl, d2]
        · rw [gI_sIn (by decide), gI_sI]
          by_cases hj : j = 28 + nM R
          · rw [if_pos ⟨rfl, rfl, hj⟩, if_pos hj]
          · rw [if_neg (fun z => hj z.2.2), if_neg hj, f3.i rfl, f2.i rfl]
        · refine ⟨?_, ?_, ?_, ?_, ?_, ?_⟩
          all_goals rw [gI_sIn (by decide), gI_sIn (by decide), f3.i rfl, f2.i rfl]
      · rw [rE_full hq] at g1 ⊢
        have g1 : PBd σ1 (3, stt t p) := g1
        rw [show (!true) = false from rfl, cond_false, b_121 g1]
        exact ⟨σ1, rfl, pm_pc f1, g1⟩
  · obtain ⟨σ1, c1, f1, g1⟩ := x_isRoom hB hH h (k := 3) (most := 6) (by omega) hb.1 (by omega)
    have c1 : Cc 233 0 [vR 96 0, vI 1, vI 3, vI 6] σ = some (some (vI (tv (!Nat.beq (nP R) 6))), σ1) := c1
    have g1 : RG σ1 t (rE (nP R) 6 t p) (ent t p) := g1
    rw [t1, c1, cI_s, tv_ite, cond_true]
    cases hq : Nat.beq (nP R) 6
    · rw [rE_room hq] at g1 ⊢
      have hne := Nat.ne_of_beq_eq_false hq
      have H1 := HM_pm hH f1
      have r3 : Cc 226 0 [vR 96 0, vI 3] σ1 = some (some (vI (nI (nP R))), σ1) := s_hasRead H1 (k := 3) (by omega)
      obtain ⟨σ2, x, y, c2, f2, d2, g2, v2⟩ := x_point_0 (hB.pm f1) H1 hW g1 (by omega)
      have r32 : Cc 226 0 [vR 96 0, vI 3] σ2 = some (some (vI (nI (nP R))), σ2) := by
        rw [c_M_hasRead, show (36 : Int32) + 3 = nI 39 from rfl, ix_nI (by omega) (by omega), f2.i rfl, show 39 = 3 + 9 * 4 from rfl, H1.1 3 (by omega)]
      have t3 := s_tells σ2 (k := 3) (by omega) (nI (nP R + 1))
      have t3 : Cc 227 0 [vR 96 0, vI 3, vI (nI (nP R + 1))] σ2 = some (none, sI σ2 23385 0 39 (nI (nP R + 1))) := t3
      rw [show (!false) = true from rfl, cond_true, r3, cI_s, show (24 : Int32) + nI (nP R) = nI (24 + nP R) from nI_add 24 _, c2, cV_s, r32, cI_s, nI_1, t3, cV_s]
      refine ⟨_, rfl, ((pm_pc f1).tr (ap_m_placeXY f2)).sI rfl, ?_⟩
      show RP _ t (pPt t R 1 2 3 (ent t p))
      have hp : pPt t R 1 2 3 (ent t p) = th (oo (oo (nE t 0 31 (ent t p)) (nE t 0 31 (ent t (ent t p)))) (dE (tkB R (vlt t (ent t p)) (vlt t (ent t (ent t p)))) t (ent t (ent t p)))) (.inr (e2 t (ent t p), A2 R 1 2 3 (vlt t (ent t p)) (vlt t (ent t (ent t p))))) := by
        rw [th_oo, th_oo]
        rfl
      rw [hp]
      refine RP_th (g2.d (fun j => gI_sIn (by decide)) (fun _ => rfl)) (fun z => ?_)
      rw [← (v2 z).1, ← (v2 z).2]
      refine HM_aP H1 (fun j => ?_) (fun j => ?_) (fun j => ?_)
      · rw [gI_sI]
        by_cases hj : j = 39
        · rw [if_pos ⟨rfl, rfl, hj⟩, if_pos hj]
        · rw [if_neg (fun z => hj z.2.2), if_neg hj, f2.i rfl]
      · rw [gI_sIn (by decide), d2]
      · refine ⟨?_, ?_, ?_, ?_, ?_, ?_, ?_⟩
        all_goals rw [gI_sIn (by decide), f2.i rfl]
    · rw [rE_full hq] at g1 ⊢
      have g1 : PBd σ1 (3, stt t p) := g1
      rw [show (!true) = false from rfl, cond_false, b_48 g1]
      exact ⟨σ1, rfl, pm_pc f1, g1⟩
