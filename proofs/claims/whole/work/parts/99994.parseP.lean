/-! THE CLASS: lines -/
def xB (r : PX) : Bool := match r with
  | .inl _ => false
  | .inr _ => true
def RQ (σ : St) (t : TP) (r : PX) : Prop := match r with
  | .inl e => gI σ 40 0 8 = nI e.1 ∧ gI σ 40 0 9 = nI e.2
  | .inr q => KD σ t q.1 ∧ HC σ 1 q.2
theorem xB_th (o : OE) (z : Nat × RF) : xB (th o (.inr z)) = oB o := by cases o <;> rfl
theorem RQ_th {σ : St} {t : TP} {o : OE} {q : Nat} {R : RF} (h : KG σ t o q) (hm : o = none → HC σ 1 R) : RQ σ t (th o (.inr (q, R))) := by
  cases o with
  | none => exact ⟨h, hm rfl⟩
  | some e => exact h
theorem oB_c (o : OE) : (o = none ∧ oB o = true) ∨ (∃ e, o = some e ∧ oB o = false) := by
  cases o with
  | none => exact Or.inl ⟨rfl, rfl⟩
  | some e => exact Or.inr ⟨e, rfl, rfl⟩
theorem HC_pr {σ : St} {R : RF} (h : HC σ 1 R) : PR σ 5 (nP R) (px R) (py R) ∧ PR σ 6 (nM R) (mx R) (my R) ∧ PR σ 7 (nF R) (fx R) (fy R) ∧ PR σ 8 (nW R) (wa R) (wb R) ∧ PR σ 9 (nL R) (lp R) (lh R) := ⟨h.2.2.2.2.1, h.2.2.2.2.2.1, h.2.2.2.2.2.2.1, h.2.2.2.2.2.2.2.1, h.2.2.2.2.2.2.2.2.1⟩
theorem d_isTaken {σ : St} {R : RF} (h : HC σ 1 R) (hW : WF R) {x y : Nat} (hx : x < 2 ^ 31) (hy : y < 2 ^ 31) : Cc 72 0 [vR 48 1, vI (nI x), vI (nI y)] σ = some (some (vI (tv (tkB R x y))), σ) := by
  obtain ⟨p1, p2, p3, _, _⟩ := HC_pr h
  have hb := hW.1
  unfold WB at hb
  have c1 := d_hasPair p1 (show nP R ≤ pln (5 % 5) from hb.1) (fun i hi => hW.2.2.1 i hi) hx hy
  have c2 := d_hasPair p2 (show nM R ≤ pln (6 % 5) from hb.2.1) (fun i hi => ⟨(hW.2.2.2.1 i hi).1, (hW.2.2.2.1 i hi).2.1⟩) hx hy
  have c3 := d_hasPair p3 (show nF R ≤ pln (7 % 5) from hb.2.2.1) (fun i hi => ⟨(hW.2.2.2.2.1 i hi).1, (hW.2.2.2.2.1 i hi).2.1⟩) hx hy
  unfold tkB
  rw [c_Roof_isTaken, show 5 * 1 + 0 = 5 from rfl, show 5 * 1 + 1 = 6 from rfl, show 5 * 1 + 2 = 7 from rfl, c1, cI_s, tv_ite, c2, cI_s, tv_ite, c3, cI_s, tv_ite, retZ_0, retZ_1]
  cases tkP (nP R) (px R) (py R) x y <;> cases tkP (nM R) (mx R) (my R) x y <;> cases tkP (nF R) (fx R) (fy R) x y <;> rfl
theorem lq_q (q j : Nat) : lqS q 32 q j = true ∧ lqS q 105 q j = true ∧ lqS q 113 q j = true := by
  have h := pq_t q j
  unfold lqS
  rw [h.1, h.2.1, h.2.2, Bool.or_true, Bool.or_true, Bool.or_true]
  exact ⟨rfl, rfl, rfl⟩
/-- what an added pair leaves -/
theorem d_add {σ : St} {q n x y : Nat} (h : gI σ 32 q 2 = nI n) (hn : n < pln (q % 5)) : ∃ σ', Cc 46 0 [vR 32 q, vI (nI x), vI (nI y)] σ = some (none, σ') ∧ Fr (lqS q) σ σ' ∧ gI σ' 32 q 2 = nI (n + 1) ∧ (∀ j, j < n → gI σ' 105 q j = gI σ 105 q j ∧ gI σ' 113 q j = gI σ 113 q j) ∧ (gI σ' 105 q n = nI x ∧ gI σ' 113 q n = nI y) ∧ ∀ j, gI σ' 40 0 j = gI σ 40 0 j := by
  refine ⟨_, k_add h hn (nI x) (nI y), ((Fr.rf.sI (lq_q q n).2.1).sI (lq_q q n).2.2).sI (lq_q q 2).1, gI_sIs _ _ _ _ _, fun j hj => ⟨?_, ?_⟩, ⟨?_, ?_⟩, fun j => ?_⟩
  · rw [gI_sIn (by decide), gI_sIn (by decide), gI_sIj (by omega)]
  · rw [gI_sIn (by decide), gI_sIj (by omega), gI_sIn (by decide)]
  · rw [gI_sIn (by decide), gI_sIn (by decide), gI_sIs]
  · rw [gI_sIn (by decide), gI_sIs]
  · rw [gI_sIn (by decide), gI_sIn (by decide), gI_sIn (by decide)]
theorem KD.d {σ σ' : St} {t : TP} {p : Nat} (h : KD σ t p) (hr : ∀ j, gI σ' 40 0 j = gI σ 40 0 j) : KD σ' t p := ⟨(hr _).trans h.1, (hr _).trans h.2.1, (hr _).trans h.2.2.1, h.2.2.2.1, (hr _).trans h.2.2.2.2.1, (hr _).trans h.2.2.2.2.2⟩
theorem TD_lq {q : Nat} {σ σ' : St} {t : TP} (h : TD σ t) (hf : Fr (lqS q) σ σ') : TD σ' t := by
  have hr : ∀ j, lqS q 358555 0 j = false := fun j => by
    unfold lqS pqC
    rfl
  exact ⟨(hf.i (show lqS q 40 0 2 = false by unfold lqS pqC; rfl)).trans h.1, h.2.1, fun i hi => ⟨(hf.i (hr i)).trans (h.2.2 i hi).1, (h.2.2 i hi).2⟩⟩
/-- a point is read, and added to the pairs q -/
theorem d_point {σ : St} {t : TP} {p : Nat} {R : RF} (hB : TD σ t) (hH : HC σ 1 R) (hW : WF R) (h : KD σ t p) {q n most : Nat} (hn : gI σ 32 q 2 = nI n) (hm : pln (q % 5) = most) (hle : n ≤ most) (h10 : most ≤ 10) : ∃ σ', Cc 57 0 [vR 40 0, vR 32 q] σ = some (some (vI (tv (oB (oo (oo (oo (rE n most t p) (nE t 0 31 (ent t p))) (nE t 0 31 (ent t (ent t p)))) (dE (tkB R (vlt t (ent t p)) (vlt t (ent t (ent t p)))) t (ent t (ent t p))))))), σ') ∧ Fr (lqS q) σ σ' ∧ KG σ' t (oo (oo (oo (rE n most t p) (nE t 0 31 (ent t p))) (nE t 0 31 (ent t (ent t p)))) (dE (tkB R (vlt t (ent t p)) (vlt t (ent t (ent t p)))) t (ent t (ent t p)))) (ent t (ent t (ent t p))) ∧ (oo (oo (oo (rE n most t p) (nE t 0 31 (ent t p))) (nE t 0 31 (ent t (ent t p)))) (dE (tkB R (vlt t (ent t p)) (vlt t (ent t (ent t p)))) t (ent t (ent t p))) = none → gI σ' 32 q 2 = nI (n + 1) ∧ (∀ j, j < n → gI σ' 105 q j = gI σ 105 q j ∧ gI σ' 113 q j = gI σ 113 q j) ∧ (gI σ' 105 q n = nI (vlt t (ent t p)) ∧ gI σ' 113 q n = nI (vlt t (ent t (ent t p))))) := by
  obtain ⟨σ1, c1, f1, g1⟩ := d_head hB h hn hm hle h10
  rw [c_Reader_readPoint, c1, cI_s, tv_ite]
  rcases oB_c (rE n most t p) with ⟨o1, b1⟩ | ⟨e, o1, b1⟩
  · have hne := rE_n o1
    rw [o1] at g1
    rw [b1, cond_true, o1]
    have B1 := hB.rd f1
    obtain ⟨σ2, c2, f2, g2, v2⟩ := d_number B1 g1 (lo := 0) (hx := 31) (by omega) (by omega)
    have c2 : Cc 64 0 [vR 40 0, vI 0, vI 30] σ1 = some (some (vI (tv (oB (nE t 0 31 (ent t p))))), σ2) := by
      rw [in30] at c2
      exact c2
    rw [c2, cI_s, tv_ite]
    rcases oB_c (nE t 0 31 (ent t p)) with ⟨o2, b2⟩ | ⟨e, o2, b2⟩
    · have r2 := nE_n o2
      rw [o2] at g2
      rw [b2, cond_true, o2]
      have B2 := B1.rd f2
      obtain ⟨σ3, c3, f3, g3, v3⟩ := d_number B2 g2 (lo := 0) (hx := 31) (by omega) (by omega)
      have c3 : Cc 64 0 [vR 40 0, vI 0, vI 30] σ2 = some (some (vI (tv (oB (nE t 0 31 (ent t (ent t p)))))), σ3) := by
        rw [in30] at c3
        exact c3
      rw [c3, cI_s, tv_ite]
      rcases oB_c (nE t 0 31 (ent t (ent t p))) with ⟨o3, b3⟩ | ⟨e, o3, b3⟩
      · have r3 := nE_n o3
        rw [o3] at g3
        rw [b3, cond_true, o3, (v2 o2).1, (v3 o3).1]
        have F3 : Fr rdS σ σ3 := (f1.tr f2).tr f3
        have H3 := HC_rd hH F3
        rw [d_isTaken H3 hW (by omega) (by omega), cI_s, tv_ite]
        cases ht : tkB R (vlt t (ent t p)) (vlt t (ent t (ent t p)))
        · obtain ⟨σ4, c4, f4, a1, a2, a3, a4⟩ := d_add (σ := σ3) (q := q) (n := n) (x := vlt t (ent t p)) (y := vlt t (ent t (ent t p))) ((F3.i rfl).trans hn) (by omega)
          rw [cond_false, (v3 o3).1, c4, cV_s, retZ_1]
          refine ⟨σ4, rfl, (rd_lq F3).tr f4, KD.d g3 a4, fun _ => ⟨a1, fun j hj => ⟨(a2 j hj).1.trans (F3.i rfl), (a2 j hj).2.trans (F3.i rfl)⟩, a3⟩⟩
        · rw [cond_true, (v3 o3).2, d_refuse, cI_s, retZ_tv]
          exact ⟨_, rfl, rd_lq ((F3.sI rfl).sI rfl), ⟨(gI_sIj (by decide)).trans (gI_sIs _ _ _ _ _), gI_sIs _ _ _ _ _⟩, fun z => by cases z⟩
      · rw [o3] at g3
        rw [b3, cond_false, o3, retZ_0]
        exact ⟨σ3, rfl, rd_lq ((f1.tr f2).tr f3), g3, fun z => by cases z⟩
    · rw [o2] at g2
      rw [b2, cond_false, o2, retZ_0]
      exact ⟨σ2, rfl, rd_lq (f1.tr f2), g2, fun z => by cases z⟩
  · rw [o1] at g1
    rw [b1, cond_false, o1, retZ_0]
    exact ⟨σ1, rfl, rd_lq f1, g1, fun z => by cases z⟩
theorem d_way {σ : St} {t : TP} {p : Nat} {R : RF} (hB : TD σ t) (hH : HC σ 1 R) (hW : WF R) (h : KD σ t p) : ∃ σ', Cc 59 0 [vR 40 0] σ = some (some (vI (tv (xB (th (rE (nW R) 10 t p) (pWy t R (ent t p)))))), σ') ∧ Fr (lqS 8) σ σ' ∧ RQ σ' t (th (rE (nW R) 10 t p) (pWy t R (ent t p))) := by
  have hb := hW.1
  unfold WB at hb
  have hp : th (rE (nW R) 10 t p) (pWy t R (ent t p)) = th (oo (oo (oo (rE (nW R) 10 t p) (nE t 0 (nP R) (ent t p))) (nE t 0 (nP R) (ent t (ent t p)))) (dE (Nat.beq (vlt t (ent t p)) (vlt t (ent t (ent t p)))) t (ent t (ent t p)))) (.inr (ent t (ent t (ent t p)), A2 R 8 9 6 (vlt t (ent t p)) (vlt t (ent t (ent t p))))) := by
    rw [th_oo, th_oo, th_oo]
    rfl
  rw [hp, xB_th]
  obtain ⟨p1, _, _, p4, _⟩ := HC_pr hH
  obtain ⟨σ1, c1, f1, g1⟩ := d_head hB h (q := 8) p4.1 (show pln (8 % 5) = 10 from rfl) hb.2.2.2.1 (by omega)
  rw [c_Reader_readWay, c1, cI_s, tv_ite]
  rcases oB_c (rE (nW R) 10 t p) with ⟨o1, b1⟩ | ⟨e, o1, b1⟩
  · have hne := rE_n o1
    rw [o1] at g1
    rw [b1, cond_true, o1]
    have B1 := hB.rd f1
    obtain ⟨σ2, c2, f2, g2, v2⟩ := d_number B1 g1 (lo := 0) (hx := nP R) (by omega) (by omega)
    have c2 : Cc 64 0 [vR 40 0, vI 0, vI (nI (nP R) - 1)] σ1 = some (some (vI (tv (oB (nE t 0 (nP R) (ent t p))))), σ2) := c2
    rw [show gI σ1 32 5 2 = nI (nP R) from (f1.i rfl).trans p1.1, c2, cI_s, tv_ite]
    rcases oB_c (nE t 0 (nP R) (ent t p)) with ⟨o2, b2⟩ | ⟨e, o2, b2⟩
    · have r2 := nE_n o2
      rw [o2] at g2
      rw [b2, cond_true, o2]
      have B2 := B1.rd f2
      obtain ⟨σ3, c3, f3, g3, v3⟩ := d_number B2 g2 (lo := 0) (hx := nP R) (by omega) (by omega)
      have c3 : Cc 64 0 [vR 40 0, vI 0, vI (nI (nP R) - 1)] σ2 = some (some (vI (tv (oB (nE t 0 (nP R) (ent t (ent t p)))))), σ3) := c3
      rw [show gI σ2 32 5 2 = nI (nP R) from (f2.i rfl).trans ((f1.i rfl).trans p1.1), c3, cI_s, tv_ite]
      rcases oB_c (nE t 0 (nP R) (ent t (ent t p))) with ⟨o3, b3⟩ | ⟨e, o3, b3⟩
      · have r3 := nE_n o3
        rw [o3] at g3
        rw [b3, cond_true, o3, (v2 o2).1, (v3 o3).1]
        have F3 : Fr rdS σ σ3 := (f1.tr f2).tr f3
        by_cases hq : vlt t (ent t p) = vlt t (ent t (ent t p))
        · rw [if_pos (by rw [hq]), (v3 o3).2, d_refuse, cI_s, retZ_tv, hq, Nat.beq_refl]
          exact ⟨_, rfl, rd_lq ((F3.sI rfl).sI rfl), ⟨(gI_sIj (by decide)).trans (gI_sIs _ _ _ _ _), gI_sIs _ _ _ _ _⟩⟩
        · have hbq : Nat.beq (vlt t (ent t p)) (vlt t (ent t (ent t p))) = false := by
            cases hz : Nat.beq (vlt t (ent t p)) (vlt t (ent t (ent t p)))
            · rfl
            · exact absurd (Nat.eq_of_beq_eq_true hz) hq
          obtain ⟨σ4, c4, f4, a1, a2, a3, a4⟩ := d_add (σ := σ3) (q := 8) (n := nW R) (x := vlt t (ent t p)) (y := vlt t (ent t (ent t p))) ((F3.i rfl).trans p4.1) (show nW R < 10 by omega)
          rw [if_neg (fun z => hq ((nI_eq (by omega) (by omega)).mp z).symm), c4, cV_s, retZ_1, hbq]
          refine ⟨σ4, rfl, (rd_lq F3).tr f4, KD.d g3 a4, ?_⟩
          exact HC_aW hH ((rd_lq F3).tr f4) a1 (fun j hj => ⟨(a2 j hj).1.trans (F3.i rfl), (a2 j hj).2.trans (F3.i rfl)⟩) a3
      · rw [o3] at g3
        rw [b3, cond_false, o3, retZ_0]
        exact ⟨σ3, rfl, rd_lq ((f1.tr f2).tr f3), g3⟩
    · rw [o2] at g2
      rw [b2, cond_false, o2, retZ_0]
      exact ⟨σ2, rfl, rd_lq (f1.tr f2), g2⟩
  · rw [o1] at g1
    rw [b1, cond_false, o1, retZ_0]
    exact ⟨σ1, rfl, rd_lq f1, g1⟩
theorem d_look {σ : St} {t : TP} {p : Nat} {R : RF} (hB : TD σ t) (hH : HC σ 1 R) (hW : WF R) (h : KD σ t p) : ∃ σ', Cc 60 0 [vR 40 0] σ = some (some (vI (tv (xB (th (rE (nL R) 6 t p) (pLk t R (ent t p)))))), σ') ∧ Fr (lqS 9) σ σ' ∧ RQ σ' t (th (rE (nL R) 6 t p) (pLk t R (ent t p))) := by
  have hb := hW.1
  unfold WB at hb
  have hp : th (rE (nL R) 6 t p) (pLk t R (ent t p)) = th (oo (oo (oo (oo (oo (rE (nL R) 6 t p) (wE t 0 (ent t p))) (nE t 0 (nP R) (e2 t p))) (dE (ex (fun k => Nat.beq (lp R k) (vlt t (e2 t p))) (nL R)) t (e2 t p))) (wE t 2 (e3 t p))) (nE t 0 (nM R) (e4 t p))) (.inr (e5 t p, A2 R 10 11 7 (vlt t (e2 t p)) (vlt t (e4 t p)))) := by
    rw [th_oo, th_oo, th_oo, th_oo, th_oo]
    rfl
  rw [hp, xB_th]
  obtain ⟨p1, p2, _, _, p5⟩ := HC_pr hH
  obtain ⟨σ1, c1, f1, g1⟩ := d_head hB h (q := 9) p5.1 (show pln (9 % 5) = 6 from rfl) hb.2.2.2.2.1 (by omega)
  rw [c_Reader_readLooker, c1, cI_s, tv_ite]
  rcases oB_c (rE (nL R) 6 t p) with ⟨o1, b1⟩ | ⟨e, o1, b1⟩
  · have hne := rE_n o1
    rw [o1] at g1
    rw [b1, cond_true, o1]
    have B1 := hB.rd f1
    obtain ⟨σ2, c2, f2, g2⟩ := d_word B1 g1 (k := 0) (by omega)
    rw [c2, cI_s, tv_ite]
    rcases oB_c (wE t 0 (ent t p)) with ⟨o2, b2⟩ | ⟨e, o2, b2⟩
    · rw [o2] at g2
      rw [b2, cond_true, o2]
      have B2 := B1.rd f2
      have F2 : Fr rdS σ σ2 := f1.tr f2
      obtain ⟨σ3, c3, f3, g3, v3⟩ := d_number B2 g2 (lo := 0) (hx := nP R) (by omega) (by omega)
      have c3 : Cc 64 0 [vR 40 0, vI 0, vI (nI (nP R) - 1)] σ2 = some (some (vI (tv (oB (nE t 0 (nP R) (e2 t p))))), σ3) := c3
      rw [show gI σ2 32 5 2 = nI (nP R) from (F2.i rfl).trans p1.1, c3, cI_s, tv_ite]
      rcases oB_c (nE t 0 (nP R) (e2 t p)) with ⟨o3, b3⟩ | ⟨e, o3, b3⟩
      · have r3 := nE_n o3
        rw [o3] at g3
        have F3 : Fr rdS σ σ3 := F2.tr f3
        have B3 := B2.rd f3
        have H3 := HC_rd hH F3
        have h1 := d_hasOne (HC_pr H3).2.2.2.2 (show nL R ≤ pln (9 % 5) from hb.2.2.2.2.1) (fun i hi => by have := (hW.2.2.2.2.2.2.1 i hi).1; omega) (x := vlt t (e2 t p)) (by omega)
        rw [b3, cond_true, o3, (v3 o3).1, h1, cI_s, tv_ite]
        cases hx : ex (fun k => Nat.beq (lp R k) (vlt t (e2 t p))) (nL R)
        · obtain ⟨σ4, c4, f4, g4⟩ := d_word B3 g3 (k := 2) (by omega)
          rw [cond_false, c4, cI_s, tv_ite]
          rcases oB_c (wE t 2 (e3 t p)) with ⟨o4, b4⟩ | ⟨e, o4, b4⟩
          · rw [o4] at g4
            rw [b4, cond_true, o4]
            have F4 : Fr rdS σ σ4 := F3.tr f4
            have B4 := B3.rd f4
            obtain ⟨σ5, c5, f5, g5, v5⟩ := d_number B4 g4 (lo := 0) (hx := nM R) (by omega) (by omega)
            have c5 : Cc 64 0 [vR 40 0, vI 0, vI (nI (nM R) - 1)] σ4 = some (some (vI (tv (oB (nE t 0 (nM R) (e4 t p))))), σ5) := c5
            rw [show gI σ4 32 6 2 = nI (nM R) from (F4.i rfl).trans p2.1, c5, cI_s, tv_ite]
            rcases oB_c (nE t 0 (nM R) (e4 t p)) with ⟨o5, b5⟩ | ⟨e, o5, b5⟩
            · rw [o5] at g5
              have F5 : Fr rdS σ σ5 := F4.tr f5
              obtain ⟨σ6, c6, f6, a1, a2, a3, a4⟩ := d_add (σ := σ5) (q := 9) (n := nL R) (x := vlt t (e2 t p)) (y := vlt t (e4 t p)) ((F5.i rfl).trans p5.1) (show nL R < 6 by omega)
              rw [b5, cond_true, o5, (v5 o5).1, c6, cV_s, retZ_1]
              refine ⟨σ6, rfl, (rd_lq F5).tr f6, KD.d g5 a4, ?_⟩
              exact HC_aL hH ((rd_lq F5).tr f6) a1 (fun j hj => ⟨(a2 j hj).1.trans (F5.i rfl), (a2 j hj).2.trans (F5.i rfl)⟩) a3
            · rw [o5] at g5
              rw [b5, cond_false, o5, retZ_0]
              exact ⟨σ5, rfl, rd_lq (F4.tr f5), g5⟩
          · rw [o4] at g4
            rw [b4, cond_false, o4, retZ_0]
            exact ⟨σ4, rfl, rd_lq (F3.tr f4), g4⟩
        · rw [cond_true, (v3 o3).2, d_refuse, cI_s, retZ_tv]
          exact ⟨_, rfl, rd_lq ((F3.sI rfl).sI rfl), ⟨(gI_sIj (by decide)).trans (gI_sIs _ _ _ _ _), gI_sIs _ _ _ _ _⟩⟩
      · rw [o3] at g3
        rw [b3, cond_false, o3, retZ_0]
        exact ⟨σ3, rfl, rd_lq (F2.tr f3), g3⟩
    · rw [o2] at g2
      rw [b2, cond_false, o2, retZ_0]
      exact ⟨σ2, rfl, rd_lq (f1.tr f2), g2⟩
  · rw [o1] at g1
    rw [b1, cond_false, o1, retZ_0]
    exact ⟨σ1, rfl, rd_lq f1, g1⟩
