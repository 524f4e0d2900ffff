/-! THE CLASS: roof() -/
theorem xB_c (r : PX) : (∃ z, r = .inr z ∧ xB r = true) ∨ (∃ e, r = .inl e ∧ xB r = false) := by
  cases r with
  | inl e => exact Or.inr ⟨e, rfl, rfl⟩
  | inr z => exact Or.inl ⟨z, rfl, rfl⟩
/-- a point's line -/
theorem d_ptl {σ : St} {t : TP} {p : Nat} {R : RF} (hB : TD σ t) (hH : HC σ 1 R) (hW : WF R) (h : KD σ t p) {q n most a b c : Nat} (hn : gI σ 32 q 2 = nI n) (hm : pln (q % 5) = most) (hle : n ≤ most) (h10 : most ≤ 10) (h5 : 5 ≤ q) (h9 : q ≤ 9) (hc : ∀ σ' x y, Fr (lqS q) σ σ' → gI σ' 32 q 2 = nI (n + 1) → (∀ j, j < n → gI σ' 105 q j = gI σ 105 q j ∧ gI σ' 113 q j = gI σ 113 q j) → (gI σ' 105 q n = nI x ∧ gI σ' 113 q n = nI y) → HC σ' 1 (A2 R a b c x y)) : ∃ σ', Cc 57 0 [vR 40 0, vR 32 q] σ = some (some (vI (tv (xB (th (rE n most t p) (pPt t R a b c (ent t p)))))), σ') ∧ Fr prS σ σ' ∧ RQ σ' t (th (rE n most t p) (pPt t R a b c (ent t p))) := by
  have hp : th (rE n most t p) (pPt t R a b c (ent t p)) = th (oo (oo (oo (rE n most t p) (nE t 0 31 (ent t p))) (nE t 0 31 (ent t (ent t p)))) (dE (tkB R (vlt t (ent t p)) (vlt t (ent t (ent t p)))) t (ent t (ent t p)))) (.inr (e3 t p, A2 R a b c (vlt t (e1 t p)) (vlt t (e2 t p)))) := by
    rw [th_oo, th_oo, th_oo]
    rfl
  rw [hp, xB_th]
  obtain ⟨σ1, c1, f1, g1, a1⟩ := d_point hB hH hW h hn hm hle h10
  refine ⟨σ1, c1, lq_pr h5 h9 f1, RQ_th g1 (fun z => ?_)⟩
  obtain ⟨x1, x2, x3⟩ := a1 z
  exact hc σ1 _ _ f1 x1 x2 x3
theorem d_line {σ : St} {t : TP} {p : Nat} {R : RF} (hB : TD σ t) (hH : HC σ 1 R) (hW : WF R) (h : KD σ t p) : ∃ σ', Cc 55 0 [vR 40 0] σ = some (some (vI (tv (xB (pLine t p R)))), σ') ∧ Fr prS σ σ' ∧ RQ σ' t (pLine t p R) := by
  have hb := hW.1
  unfold WB at hb
  have hN : gI σ 48 1 3 = nI (nN R) := hH.2.2.2.1
  obtain ⟨p1, p2, p3, p4, p5⟩ := HC_pr hH
  unfold pLine
  rw [c_Reader_readLine, hN]
  cases hn : Nat.beq (nN R) 0
  · have hnn := Nat.ne_of_beq_eq_false hn
    rw [if_neg (nI_ne0 (by omega) (by omega)), cond_false, k_isWord hB h (k := 7) (by omega), cI_s, tv_ite]
    unfold pLn
    cases w7 : isW t p 7
    · rw [cond_false, cond_false, k_isWord hB h (k := 5) (by omega), cI_s, tv_ite]
      cases w5 : isW t p 5
      · rw [cond_false, cond_false, k_isWord hB h (k := 1) (by omega), cI_s, tv_ite]
        cases w1 : isW t p 1
        · rw [cond_false, cond_false, k_isWord hB h (k := 9) (by omega), cI_s, tv_ite]
          cases w9 : isW t p 9
          · rw [cond_false, cond_false, k_isWord hB h (k := 4) (by omega), cI_s, tv_ite]
            cases w4 : isW t p 4
            · rw [cond_false, cond_false, h.2.1, d_refuse, cI_s, retZ_tv]
              exact ⟨_, rfl, rd_pr ((Fr.rf.sI rfl).sI rfl), ⟨(gI_sIj (by decide)).trans (gI_sIs _ _ _ _ _), gI_sIs _ _ _ _ _⟩⟩
            · obtain ⟨σ1, c1, f1, r1⟩ := d_look hB hH hW h
              rw [cond_true, cond_true, c1, cI_s, retZ_tv]
              exact ⟨σ1, rfl, lq_pr (by omega) (by omega) f1, r1⟩
          · obtain ⟨σ1, c1, f1, r1⟩ := d_way hB hH hW h
            rw [cond_true, cond_true, c1, cI_s, retZ_tv]
            exact ⟨σ1, rfl, lq_pr (by omega) (by omega) f1, r1⟩
        · obtain ⟨σ1, c1, f1, r1⟩ := d_ptl (a := 6) (b := 7) (c := 5) hB hH hW h (q := 7) p3.1 (show pln (7 % 5) = 6 from rfl) hb.2.2.1 (by omega) (by omega) (by omega) (fun σ' x y z1 z2 z3 z4 => HC_aF hH z1 z2 z3 z4)
          rw [cond_true, cond_true, c1, cI_s, retZ_tv]
          exact ⟨σ1, rfl, f1, r1⟩
      · obtain ⟨σ1, c1, f1, r1⟩ := d_mark hB hH hW h
        rw [cond_true, cond_true, c1]
        exact ⟨σ1, rfl, f1, r1⟩
    · obtain ⟨σ1, c1, f1, r1⟩ := d_ptl (a := 1) (b := 2) (c := 3) hB hH hW h (q := 5) p1.1 (show pln (5 % 5) = 6 from rfl) hb.1 (by omega) (by omega) (by omega) (fun σ' x y z1 z2 z3 z4 => HC_aP hH z1 z2 z3 z4)
      rw [cond_true, cond_true, c1, cI_s, retZ_tv]
      exact ⟨σ1, rfl, f1, r1⟩
  · have hnn : nN R = 0 := Nat.eq_of_beq_eq_true hn
    obtain ⟨σ1, c1, f1, r1⟩ := d_rfl hB hH h
    rw [if_pos (by rw [hnn]; rfl), cond_true, c1, cI_s, retZ_tv]
    exact ⟨σ1, rfl, f1, r1⟩
theorem RQ_f {σ : St} {t : TP} {e : Nat × Nat} (h : RQ σ t (.inl e)) (x : Int32) : RQ (sI σ 48 1 3 x) t (.inl e) := ⟨(gI_sIn (by decide)).trans h.1, (gI_sIn (by decide)).trans h.2⟩
/-- wrong: the loop ends -/
theorem d_stop (σ : St) (l2 : Int32) : Vv 54 0 30 [some (vR 40 0), some (vI 0), some (vI l2)] [] σ = some (some (vI (tv false)), σ) := by
  rw [v_Reader_readRoof_30, if_pos rfl, retZ_0]
  split <;> rfl
theorem d_all {t : TP} : ∀ (k p i : Nat) (σ : St) (R : RF), t.2.1 < p + k → i ≤ p → TD σ t → KD σ t p → HC σ 1 R → WF R → nA R = 0 → nN R ≤ p → ∃ σ', Vv 54 0 30 [some (vR 40 0), some (vI 1), some (vI (nI i))] [] σ = some (some (vI (tv (xB (pAll t k p R)))), σ') ∧ Fr prS σ σ' ∧ RQ σ' t (pAll t k p R)
  | 0, p, i, σ, R, hk, hip, hB, hG, hH, hW, hA, hN => by
    have := hG.2.2.2.1
    exfalso
    omega
  | k + 1, p, i, σ, R, hk, hip, hB, hG, hH, hW, hA, hN => by
    have hp := hG.2.2.2.1
    have h700 := hB.2.1
    have hkn : knt t p ≤ 5 := by
      unfold knt kd
      split
      · exact (bk_le _).2
      · omega
    have h10 : ¬ (1 : Int32) = 0 := by decide
    have ea : pAll t (k + 1) p R = cond (Nat.beq (knt t p) 0) (.inr (p, R)) (pbd (pbd (pLine t p R) (pEnd t)) (pAll t k)) := rfl
    rw [ea]
    cases h0 : Nat.beq (knt t p) 0
    · have hn0 := Nat.ne_of_beq_eq_false h0
      have hle := ent_le hp
      have hst := stt_le hp
      have hsl := hle.2.1 hn0
      obtain ⟨σ1, c1, f1, r1⟩ := d_line hB hH hW hG
      rw [cond_false, v_Reader_readRoof_30, if_pos (show nI i < (700 : Int32) from nI_lt (b := 700) (by omega) (by omega)), if_neg h10, hG.1, if_neg (nI_ne0 (by omega) (by omega)), c1, cI_s, tv_ite, nI_1]
      rcases xB_c (pLine t p R) with ⟨z, o1, b1⟩ | ⟨e, o1, b1⟩
      · obtain ⟨q, R0⟩ := z
        rw [o1] at r1
        obtain ⟨g1, m1⟩ : KD σ1 t q ∧ HC σ1 1 R0 := r1
        have hq0 := pLine_q hp o1
        have hwf := pLine_wf hW hA (show nN R + 1 ≤ 700 by omega) o1
        obtain ⟨σ2, c2, f2, g2⟩ := d_sign (TD_pr hB f1) g1
        have m2 := HC_rd m1 f2
        have l2 : gI σ2 48 1 3 = nI (nN R0) := m2.2.2.2.1
        rw [b1, cond_true, o1, c2, cI_s, tv_ite, l2, nI_1]
        show ∃ σ', _ = some (some (vI (tv (xB (pbd (th (sE t q) (.inr (ent t q, R1 R0 0 9 (nN R0 + 1)))) (pAll t k))))), σ') ∧ Fr prS σ σ' ∧ RQ σ' t (pbd (th (sE t q) (.inr (ent t q, R1 R0 0 9 (nN R0 + 1)))) (pAll t k))
        rcases oB_c (sE t q) with ⟨o2, b2⟩ | ⟨e, o2, b2⟩
        · rw [o2] at g2
          rw [b2, cond_true, o2]
          have hq1 := ent_le hq0.2
          have hq3 := sE_n o2
          have hqs := stt_le hq0.2
          have hq4 := hq1.2.1 (by omega)
          have n9 : nN (R1 R0 0 9 (nN R0 + 1)) = nN R0 + 1 := (R1_a R0 0 9 _ 9).trans (if_pos rfl)
          have n8 : nA (R1 R0 0 9 (nN R0 + 1)) = nA R0 := R1_a R0 0 9 _ 8
          have F2 : Fr prS σ (sI σ2 48 1 3 (nI (nN R0 + 1))) := (f1.tr (rd_pr f2)).sI rfl
          obtain ⟨σ3, c3, f3, r3⟩ := d_all k (ent t q) (i + 1) (sI σ2 48 1 3 (nI (nN R0 + 1))) (R1 R0 0 9 (nN R0 + 1)) (by omega) (by omega) (TD_pr hB F2) (KD.d g2 (fun j => gI_sIn (by decide))) (HC_lines m2 (nN R0 + 1)) hwf.1 (n8.trans hwf.2.1) (by rw [n9, hwf.2.2]; omega)
          exact ⟨σ3, c3, F2.tr f3, r3⟩
        · rw [o2] at g2
          have F2 : Fr prS σ (sI σ2 48 1 3 (nI (nN R0 + 1))) := (f1.tr (rd_pr f2)).sI rfl
          rw [b2, cond_false, o2, d_stop]
          exact ⟨_, rfl, F2, RQ_f (t := t) (e := e) g2 _⟩
      · rw [o1] at r1
        rw [b1, cond_false, o1, d_stop]
        exact ⟨_, rfl, f1.sI rfl, RQ_f r1 _⟩
    · have hk0 := Nat.eq_of_beq_eq_true h0
      refine ⟨σ, ?_, Fr.rf, hG, hH⟩
      rw [v_Reader_readRoof_30, hG.1, hk0, if_neg h10, if_pos q_0, retZ_1]
      split <;> rfl
theorem d_empty (σ : St) : ∃ σ', Cc 79 0 [vR 48 1] σ = some (none, σ') ∧ Fr (rfC 1) σ σ' ∧ HC σ' 1 R00 := by
  refine ⟨_, c_Roof_makeEmpty σ 1, (((((((((Fr.rf.sI rfl).sI rfl).sI rfl).sI rfl).sI rfl).sI rfl).sI rfl).sI rfl).sI rfl).sI rfl, ?_⟩
  have no : ∀ {β : Prop} {i : Nat}, i < 0 → β := fun h => absurd h (Nat.not_lt_zero _)
  refine ⟨?_, ?_, ?_, ?_, ⟨?_, fun i hi => no hi⟩, ⟨?_, fun i hi => no hi⟩, ⟨?_, fun i hi => no hi⟩, ⟨?_, fun i hi => no hi⟩, ⟨?_, fun i hi => no hi⟩, fun i hi => no hi, ?_, fun i hi => no hi⟩ <;> rfl
theorem d_read {σ : St} {t : TP} (hB : TD σ t) : ∃ σ', Cc 54 0 [vR 40 0] σ = some (some (vI (tv (xB (pAll t 701 0 R00)))), σ') ∧ Fr prS σ σ' ∧ RQ σ' t (pAll t 701 0 R00) := by
  have hbd := hB.2.1
  obtain ⟨σ1, c1, f1, m1⟩ := d_empty σ
  have F2 : Fr rdS σ1 (sI (sI (sI σ1 40 0 8 0) 40 0 9 (-1)) 40 0 5 0) := ((Fr.rf.sI rfl).sI rfl).sI rfl
  have B2 := (TD_pr hB (rf_pr f1)).rd F2
  have G8 : gI (sI (sI (sI σ1 40 0 8 0) 40 0 9 (-1)) 40 0 5 0) 40 0 8 = 0 := by rw [gI_sIj (by decide), gI_sIj (by decide), gI_sIs]
  have G9 : gI (sI (sI (sI σ1 40 0 8 0) 40 0 9 (-1)) 40 0 5 0) 40 0 9 = -1 := by rw [gI_sIj (by decide), gI_sIs]
  obtain ⟨σ3, c3, f3, g3, g4, g5⟩ := k_nextTok (p := 0) B2 (Nat.zero_le _) (gI_sIs _ _ _ _ _)
  have F3 : Fr prS σ σ3 := ((rf_pr f1).tr (rd_pr F2)).tr (rd_pr (nt_rd f3))
  obtain ⟨σ4, c4, f4, r4⟩ := d_all (t := t) 701 0 0 σ3 R00 (by omega) (Nat.le_refl _) (TD_pr hB F3) ⟨g3, g4, g5, Nat.zero_le _, (f3.i rfl).trans G8, (f3.i rfl).trans G9⟩ (HC_rd (HC_rd m1 F2) (nt_rd f3)) WF_00 rfl (Nat.le_refl _)
  refine ⟨σ4, ?_, F3.tr f4, r4⟩
  rw [c_Reader_readRoof, c1, cV_s, c3, cV_s]
  exact c4
/-- when all is well, it is as it must be -/
theorem pAll_wf {t : TP} (h700 : t.2.1 ≤ 700) : ∀ (k p : Nat) (R : RF), t.2.1 < p + k → p ≤ t.2.1 → WF R → nA R = 0 → nN R ≤ p → ∀ q R', pAll t k p R = .inr (q, R') → WF R'
  | 0, p, R, hk, hp, _, _, _ => by
    exfalso
    omega
  | k + 1, p, R, hk, hp, hW, hA, hN => by
    intro q R' e
    have ea : pAll t (k + 1) p R = cond (Nat.beq (knt t p) 0) (.inr (p, R)) (pbd (pbd (pLine t p R) (pEnd t)) (pAll t k)) := rfl
    rw [ea] at e
    cases h0 : Nat.beq (knt t p) 0
    · rw [h0, cond_false] at e
      have hn0 := Nat.ne_of_beq_eq_false h0
      have hsl := (ent_le hp).2.1 hn0
      have hl := (ent_le hp).1
      have hst := stt_le hp
      obtain ⟨q1, R1', e1, e2⟩ := pbd_r e
      obtain ⟨q0, R0, e3, e4⟩ := pbd_r e1
      have hq0 := pLine_q hp e3
      have hq1 := pEnd_q hq0.2 e4
      have hwf := pLine_wf hW hA (show nN R + 1 ≤ 700 by omega) e3
      have eR := hq1.2.2.2
      have n9 : nN (R1 R0 0 9 (nN R0 + 1)) = nN R0 + 1 := (R1_a R0 0 9 _ 9).trans (if_pos rfl)
      have n8 : nA (R1 R0 0 9 (nN R0 + 1)) = nA R0 := R1_a R0 0 9 _ 8
      subst eR
      exact pAll_wf h700 k q1 _ (by omega) hq1.2.1 hwf.1 (n8.trans hwf.2.1) (by rw [n9, hwf.2.2]; omega) q R' e2
    · rw [h0] at e
      cases e
      exact hW
theorem HC_pr0 {σ σ' : St} {k : Nat} {R : RF} (h : HC σ k R) (hk : k ≠ 1) (hf : Fr prS σ σ') : HC σ' k R := h.fr hf (fun j => by
  obtain ⟨q1, q2, q3, q4, q5, q6, q7⟩ := rfC_o hk j
  unfold prS
  rw [q1, q3, q4, q5, q6, q7]
  refine ⟨rfl, fun q hq => ?_, rfl, rfl, rfl, rfl, rfl⟩
  obtain ⟨p1, p2, p3⟩ := q2 q hq
  rw [p1, p2, p3]
  exact ⟨rfl, rfl, rfl⟩)
theorem pr_cl {σ σ' : St} (h : Fr prS σ σ') : Fr clS σ σ' := cl_of (fun t i j hr => by
  have h2 : rdS t i j = false := by
    cases hz : rdS t i j
    · rfl
    · unfold rdS at hz
      rw [Bool.and_eq_true] at hz
      rw [Nat.eq_of_beq_eq_true hz.1] at hr
      cases hr
  unfold prS
  rw [rfC_rf 1 t i j hr, h2]; rfl) h
def r2S (t _i j : Nat) : Bool := Nat.beq t 40 && Nat.beq j 2
theorem r2_cl {σ σ' : St} (h : Fr r2S σ σ') : Fr clS σ σ' := cl_of (fun t i j hr => by
  cases hz : r2S t i j
  · rfl
  · unfold r2S at hz
    rw [Bool.and_eq_true] at hz
    rw [Nat.eq_of_beq_eq_true hz.1] at hr
    cases hr) h
theorem HC_r2 {σ σ' : St} {k : Nat} {R : RF} (h : HC σ k R) (hf : Fr r2S σ σ') : HC σ' k R := h.fr hf (fun _ => ⟨rfl, fun _ _ => ⟨rfl, rfl, rfl⟩, rfl, rfl, rfl, rfl, rfl⟩)
theorem u_roof {σ : St} {S : AZ} (h : JC σ S) : RCS 117 [] σ (vI (Z_roof S).1) (Z_roof S).2 := by
  have B0 : TD σ (zT S) := ⟨h.2.2.2.1, h.2.2.2.2.1, h.2.2.2.2.2.1⟩
  obtain ⟨σ1, c1, f1, r1⟩ := d_read B0
  have F2 : Fr r2S σ1 (sI σ1 40 0 2 0) := Fr.rf.sI rfl
  have hI : ∀ k, k < 3 → gI (sI σ1 40 0 2 0) 1708 0 k = tv (zk S k) ∧ (zk S k = true → WF (zI S k) ∧ HC (sI σ1 40 0 2 0) (2 + k) (zI S k)) := fun k hk => ⟨(F2.i rfl).trans ((f1.i rfl).trans (h.2.1 k hk).1), fun z => ⟨((h.2.1 k hk).2 z).1, HC_r2 (HC_pr0 ((h.2.1 k hk).2 z).2 (by omega) f1) F2⟩⟩
  have hS : SK (sI σ1 40 0 2 0) (zK S) := SK_i (SK_i h.2.2.1 f1 (fun _ _ => ⟨rfl, rfl⟩)) F2 (fun _ _ => ⟨rfl, rfl⟩)
  unfold Z_roof RCS
  rw [c_H_roof, c1, cI_s, tv_ite]
  cases hr : pAll (zT S) 701 0 R00 with
  | inl e =>
    rw [hr] at r1
    show ∃ σ', cond false _ _ = _ ∧ _
    rw [cond_false]
    refine ⟨_, rfl, (pr_cl f1).tr (r2_cl F2), ⟨⟨h.1.1.1, HC_r2 (HC_pr0 h.1.1.2 (by omega) f1) F2⟩, fun p hp => ⟨(F2.i rfl).trans ((f1.i rfl).trans (h.1.2.1 p hp).1), (F2.i rfl).trans ((f1.i rfl).trans (h.1.2.1 p hp).2)⟩, fun z hz l hl => (F2.i rfl).trans ((f1.i rfl).trans (h.1.2.2.1 z hz l hl)), h.1.2.2.2⟩, hI, hS, gI_sIs _ _ _ _ _, Nat.zero_le _, fun i hi => absurd hi (Nat.not_lt_zero _), (gI_sIj (by decide)).trans r1.1, (gI_sIj (by decide)).trans r1.2⟩
  | inr z =>
    obtain ⟨q, R⟩ := z
    rw [hr] at r1
    obtain ⟨hg, hm⟩ : KD σ1 (zT S) q ∧ HC σ1 1 R := r1
    have hW := pAll_wf B0.2.1 701 0 R00 (by have := B0.2.1; omega) (Nat.zero_le _) WF_00 rfl (Nat.le_refl _) q R hr
    obtain ⟨σ3, c3, f3, m3⟩ := k_copyRoof (a := 0) (HC_r2 hm F2) hW.1 (by omega)
    obtain ⟨σ4, c4, f4, v4⟩ := h_lookAnew ⟨hW, m3⟩
    have hF := (rf_mv f3).tr (la_mv f4)
    show ∃ σ', cond true _ _ = _ ∧ _
    rw [cond_true, c3, cV_s, c4, cV_s, v4.1.N]
    refine ⟨σ4, rfl, ((pr_cl f1).tr (r2_cl F2)).tr (mv_cl hF), v4, fun k hk => ⟨(hF.i rfl).trans (hI k hk).1, fun z => ⟨((hI k hk).2 z).1, HC_mv ((hI k hk).2 z).2 (by omega) hF⟩⟩, SK_i hS hF (fun _ _ => ⟨rfl, rfl⟩), (hF.i rfl).trans (gI_sIs _ _ _ _ _), Nat.zero_le _, fun i hi => absurd hi (Nat.not_lt_zero _), (hF.i rfl).trans ((gI_sIj (by decide)).trans hg.2.2.2.2.1), (hF.i rfl).trans ((gI_sIj (by decide)).trans hg.2.2.2.2.2)⟩
