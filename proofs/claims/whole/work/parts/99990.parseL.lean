/-! THE REFERENCE: roof(), all lines -/
theorem TB_pc {σ σ' : St} {t : TP} (h : TB σ t) (hf : Fr pcS σ σ') : TB σ' t := TB_d h (hf.i rfl) (fun j => hf.i rfl)
theorem s_good {σ : St} {t : TP} {p : Nat} (h : PG σ t p) : Cc 215 0 [vR 96 0] σ = some (some (vI (tv true)), σ) := by
  rw [c_M_isGood, if_pos h.1]
  rfl
theorem s_bad {σ : St} {e : Nat × Nat} (h : PBd σ e) : Cc 215 0 [vR 96 0] σ = some (some (vI (tv false)), σ) := by
  rw [c_M_isGood, if_neg h.ne]
  rfl
/-- behind a line: its end, and one line more -/
theorem x_tail {σ : St} {t : TP} {r : PX} (hB : TB σ t) (h : RP σ t r) (hq : ∀ q R, r = .inr (q, R) → q ≤ t.2.1) : ∃ σ', cI (Cc 215 0 [vR 96 0] σ) (fun x29 σ28 => if x29 = 0 then ix 4 5 (fun k30 => ix 4 5 (fun k31 => Vv 236 0 13 [some (vR 96 0)] [] (sI σ28 2897 0 k31 ((gI σ28 2897 0 k30) + (1 : Int32))))) else cV (Cc 222 0 [vR 96 0] σ28) (fun σ32 => ix 4 5 (fun k33 => ix 4 5 (fun k34 => Vv 236 0 13 [some (vR 96 0)] [] (sI σ32 2897 0 k34 ((gI σ32 2897 0 k33) + (1 : Int32))))))) = Vv 236 0 13 [some (vR 96 0)] [] σ' ∧ Fr pcS σ σ' ∧ RP σ' t (pbd r (pEnd t)) := by
  have i4 : ∀ f : Nat → Option AR, ix 4 5 f = f 4 := fun f => ix_nI (k := 4) (n := 5) (f := f) (by omega) (by omega)
  cases r with
  | inl e =>
    have h : PBd σ e := h
    rw [s_bad h, cI_s, tv_ite, cond_false, i4, i4]
    refine ⟨_, rfl, Fr.rf.sI rfl, ?_⟩
    exact ⟨(gI_sIn (by decide)).trans h.1, h.2.1, h.2.2.1, (gI_sIn (by decide)).trans h.2.2.2.1, h.2.2.2.2⟩
  | inr z =>
    obtain ⟨q, R⟩ := z
    obtain ⟨hg, hm⟩ : PG σ t q ∧ HM σ 4 R := h
    obtain ⟨σ1, c1, f1, g1⟩ := x_ends hB hg
    have h1 := HM_pm hm f1
    rw [s_good hg, cI_s, tv_ite, cond_true, c1, cV_s, i4, i4, h1.2.1, nI_1]
    refine ⟨_, rfl, (pm_pc f1).sI rfl, ?_⟩
    show RP _ t (th (sE t q) (.inr (ent t q, R1 R 0 9 (nN R + 1))))
    exact RP_th (g1.d (fun j => gI_sIn (by decide)) (fun _ => rfl)) (fun _ => HM_lines h1 (nN R + 1))
theorem x_all {t : TP} : ∀ (k p : Nat) (σ : St) (R : RF), t.2.1 < p + k → TB σ t → PG σ t p → HM σ 4 R → WF R → nA R = 0 → nN R ≤ p → ∃ σ', Vv 236 0 13 [some (vR 96 0)] [] σ = Vv 236 0 13 [some (vR 96 0)] [] σ' ∧ Fr pcS σ σ' ∧ RP σ' t (pAll t k p R) ∧ ∀ q R', pAll t k p R = .inr (q, R') → knt t q = 0 ∧ WF R' ∧ q ≤ t.2.1
  | 0, p, σ, R, hk, hB, hG, hH, hW, hA, hN => by
    have := hG.2.2
    exfalso
    omega
  | k + 1, p, σ, R, hk, hB, hG, hH, hW, hA, hN => by
    have hp := hG.2.2
    have h700 := hB.2.1
    have ea : pAll t (k + 1) p R = cond (Nat.beq (knt t p) 0) (.inr (p, R)) (pbd (pbd (pLine t p R) (pEnd t)) (pAll t k)) := rfl
    rw [ea]
    cases h0 : Nat.beq (knt t p) 0
    · rw [cond_false]
      have hn0 := Nat.ne_of_beq_eq_false h0
      have hle := ent_le hp
      have hst := stt_le hp
      have hsl := hle.2.1 hn0
      have hkn : knt t p ≤ 5 := by
        unfold knt kd
        split
        · exact (bk_le _).2
        · omega
      have step : ∃ σ1, Vv 236 0 13 [some (vR 96 0)] [] σ = Vv 236 0 13 [some (vR 96 0)] [] σ1 ∧ Fr pcS σ σ1 ∧ RP σ1 t (pbd (pLine t p R) (pEnd t)) := by
        have i4 : ∀ f : Nat → Option AR, ix 4 5 f = f 4 := fun f => ix_nI (k := 4) (n := 5) (f := f) (by omega) (by omega)
        have hl4 : gI σ 2897 0 4 = nI (nN R) := hH.2.1
        have h80 : ¬ gI σ 96 0 8 = 0 := by
          rw [hG.2.1.2.1]
          exact nI_ne0 (by omega) (by omega)
        cases hn : Nat.beq (nN R) 0
        · have hnn := Nat.ne_of_beq_eq_false hn
          have el : pLine t p R = pLn t R p := by
            unfold pLine
            rw [hn]
            rfl
          obtain ⟨σ1, c1, f1, r1⟩ := x_line hB hH hW hG
          rw [← el] at r1
          obtain ⟨σ2, c2, f2, r2⟩ := x_tail (TB_pc hB f1) r1 (fun q R' e => (pLine_q hp e).2)
          refine ⟨σ2, ?_, f1.tr f2, r2⟩
          rw [v_M_roof_13, s_good hG, cI_s, tv_ite, cond_true, if_neg h80, i4, hl4, if_neg (nI_ne0 (by omega) (by omega)), c1, cV_s]
          exact c2
        · have hnn : nN R = 0 := Nat.eq_of_beq_eq_true hn
          have el : pLine t p R = pRf t R p := by
            unfold pLine
            rw [hn]
            rfl
          obtain ⟨σ1, c1, f1, r1⟩ := x_rfl hB hH hG
          rw [← el] at r1
          obtain ⟨σ2, c2, f2, r2⟩ := x_tail (TB_pc hB f1) r1 (fun q R' e => (pLine_q hp e).2)
          refine ⟨σ2, ?_, f1.tr f2, r2⟩
          rw [v_M_roof_13, s_good hG, cI_s, tv_ite, cond_true, if_neg h80, i4, hl4, if_pos (by rw [hnn]; rfl), c1]
          exact c2
      obtain ⟨σ1, c1, f1, r1⟩ := step
      cases hr : pbd (pLine t p R) (pEnd t) with
      | inl e =>
        rw [hr] at r1
        exact ⟨σ1, c1, f1, r1, fun q R' z => by cases z⟩
      | inr z =>
        obtain ⟨q, R1'⟩ := z
        rw [hr] at r1
        obtain ⟨q0, R0, e1, e2⟩ := pbd_r hr
        have hq0 := pLine_q hp e1
        have hq1 := pEnd_q hq0.2 e2
        have hwf := pLine_wf hW hA (show nN R + 1 ≤ 700 by omega) e1
        have eR := hq1.2.2.2
        have n9 : nN (R1 R0 0 9 (nN R0 + 1)) = nN R0 + 1 := (R1_a R0 0 9 _ 9).trans (if_pos rfl)
        have n8 : nA (R1 R0 0 9 (nN R0 + 1)) = nA R0 := R1_a R0 0 9 _ 8
        obtain ⟨hg1, hm1⟩ : PG σ1 t q ∧ HM σ1 4 R1' := r1
        subst eR
        obtain ⟨σ2, c2, f2, r2, w2⟩ := x_all k q σ1 _ (by omega) (TB_pc hB f1) hg1 hm1 hwf.1 (n8.trans hwf.2.1) (by rw [n9, hwf.2.2]; omega)
        exact ⟨σ2, c1.trans c2, f1.tr f2, r2, w2⟩
    · rw [cond_true]
      refine ⟨σ, rfl, Fr.rf, ⟨hG, hH⟩, fun q R' z => ?_⟩
      cases z
      exact ⟨Nat.eq_of_beq_eq_true h0, hW, hp⟩
def Z_roof (S : AZ) : Int32 × AZ := match pAll (zT S) 701 0 R00 with
  | .inl e => (-4, (zR S, zI S, zk S, zK S, ((zT S).1, 0, nI e.1, nI e.2)))
  | .inr q => (nI (nN q.2), (q.2, zI S, zk S, zK S, ((zT S).1, 0, 0, -1)))
theorem pc_rf (t i j : Nat) (h : pcS t i j = true) : rfS t i j = true := by
  unfold pcS pmS dfS at h
  simp only [Bool.or_eq_true, Bool.and_eq_true] at h
  rcases h with h | (((((((h | h) | h) | h) | h) | h) | h) | h) <;> (rw [Nat.eq_of_beq_eq_true h.1]; rfl)
theorem Fr.pcs {σ σ' : St} (h : Fr pcS σ σ') : Fr rfS σ σ' := h.up (fun t i j hq => by
  cases hz : pcS t i j
  · rfl
  · rw [pc_rf t i j hz] at hq
    cases hq)
theorem SM_pc {σ σ' : St} {K : KT} (h : SM σ K) (hf : Fr pcS σ σ') : SM σ' K := fun s hs => by
  obtain ⟨h1, h2, h3, h4⟩ := h s hs
  refine ⟨h1, h2, fun q => (hf.i rfl).trans (h3 q), fun q => ?_⟩
  obtain ⟨g1, g2, g3⟩ := h4 q
  exact ⟨(hf.i rfl).trans g1, (hf.i rfl).trans g2, fun k hk => (hf.l rfl).trans (g3 k hk)⟩
def ovS (t _i j : Nat) : Bool := Nat.beq t 96 && (Nat.beq j 6 || Nat.beq j 14 || Nat.beq j 15)
theorem ov_rf {σ σ' : St} (h : Fr ovS σ σ') : Fr rfS σ σ' := h.up (fun t i j hq => by
  cases hz : ovS t i j
  · rfl
  · unfold ovS at hz
    rw [Bool.and_eq_true] at hz
    rw [Nat.eq_of_beq_eq_true hz.1] at hq
    cases hq)
theorem SM_ov {σ σ' : St} {K : KT} (h : SM σ K) (hf : Fr ovS σ σ') : SM σ' K := fun s hs => by
  obtain ⟨h1, h2, h3, h4⟩ := h s hs
  refine ⟨h1, h2, fun q => (hf.i rfl).trans (h3 q), fun q => ?_⟩
  obtain ⟨g1, g2, g3⟩ := h4 q
  exact ⟨(hf.i rfl).trans g1, (hf.i rfl).trans g2, fun k hk => (hf.l rfl).trans (g3 k hk)⟩
theorem HM_ov {σ σ' : St} {k : Nat} {R : RF} (h : HM σ k R) (hf : Fr ovS σ σ') : HM σ' k R := h.fr hf (fun _ => ⟨rfl, rfl, rfl, rfl, rfl, rfl, rfl, rfl, rfl⟩)
theorem s_over {σ : St} : ∃ σ', Cc 224 0 [vR 96 0] σ = some (none, σ') ∧ Fr ovS σ σ' ∧ gI σ' 96 0 6 = 0 ∧ gI σ' 96 0 14 = gI σ 96 0 12 ∧ gI σ' 96 0 15 = (if gI σ 96 0 12 = 0 then -1 else gI σ 96 0 13) ∧ gI σ' 96 0 12 = gI σ 96 0 12 := by
  rw [c_M_isOver, gI_sIj (by decide), gI_sIj (by decide), gI_sIj (by decide), gI_sIj (by decide)]
  by_cases h : gI σ 96 0 12 = 0
  · rw [if_pos h, if_pos h]
    exact ⟨_, rfl, ((Fr.rf.sI rfl).sI rfl).sI rfl, by rw [gI_sIj (by decide), gI_sIj (by decide), gI_sIs], by rw [gI_sIj (by decide), gI_sIs], by rw [gI_sIs], by rw [gI_sIj (by decide), gI_sIj (by decide), gI_sIj (by decide)]⟩
  · rw [if_neg h, if_neg h]
    exact ⟨_, rfl, ((Fr.rf.sI rfl).sI rfl).sI rfl, by rw [gI_sIj (by decide), gI_sIj (by decide), gI_sIs], by rw [gI_sIj (by decide), gI_sIs], by rw [gI_sIs], by rw [gI_sIj (by decide), gI_sIj (by decide), gI_sIj (by decide)]⟩
theorem n_roof {σ : St} {S : AZ} (h : JM σ S) : RMS 236 [] σ (vI (Z_roof S).1) (Z_roof S).2 := by
  have h1 := h.f (thr_F σ)
  have f0 := (thr_F σ).rfs
  obtain ⟨σ1, c1, f1, m1⟩ := s_clears (sI σ 96 0 0 0)
  have B1 : TB σ1 (zT S) := TB_pc ⟨h1.2.2.2.1, h1.2.2.2.2.1, h1.2.2.2.2.2.1⟩ f1
  obtain ⟨σ2, c2, f2, g2⟩ := s_begins B1
  have B2 := B1.pm f2
  have hb := B2.2.1
  obtain ⟨σ3, c3, f3, r3, w3⟩ := x_all (t := zT S) 701 0 σ2 R00 (by omega) B2 g2 (HM_pm m1 f2) WF_00 rfl (Nat.le_refl _)
  have F3 : Fr pcS (sI σ 96 0 0 0) σ3 := (f1.tr (pm_pc f2)).tr f3
  have cc : Cc 236 0 [vR 96 0] σ = Vv 236 0 13 [some (vR 96 0)] [] σ3 := by
    rw [c_M_roof, c1, cV_s, c2, cV_s]
    exact c3
  obtain ⟨σ4, c4, f4, o6, o14, o15, o12⟩ := s_over (σ := σ3)
  have hI : ∀ k, k < 3 → gI σ4 1948 0 k = tv (zk S k) ∧ (zk S k = true → WF (zI S k) ∧ HM σ4 (1 + k) (zI S k)) := fun k hk => by
    obtain ⟨i1, i2⟩ := h1.2.1 k hk
    exact ⟨(f4.i rfl).trans ((F3.i rfl).trans i1), fun z => ⟨(i2 z).1, HM_ov (HM_pc (by omega) (i2 z).1.1 (i2 z).2 F3) f4⟩⟩
  have hS : SM σ4 (zK S) := SM_ov (SM_pc h1.2.2.1 F3) f4
  have hZ := h1.1
  unfold Z_roof RMS
  rw [cc, v_M_roof_13]
  cases hr : pAll (zT S) 701 0 R00 with
  | inl e =>
    rw [hr] at r3
    have r3 : PBd σ3 e := r3
    rw [s_bad r3, cI_s, tv_ite, cond_false, c4, cV_s, if_neg (by rw [o12]; exact r3.ne)]
    refine ⟨σ4, rfl, (f0.tr F3.pcs).tr (ov_rf f4), ⟨hZ.1, HM_ov (HM_pc (by omega) hZ.1.1 hZ.2 F3) f4⟩, hI, hS, o6, Nat.zero_le _, fun i hi => absurd hi (Nat.not_lt_zero _), ?_, ?_⟩
    · rw [o14, r3.1]
    · rw [o15, if_neg r3.ne, r3.2.2.2.1]
  | inr z =>
    obtain ⟨q, R⟩ := z
    rw [hr] at r3
    obtain ⟨hg, hm⟩ : PG σ3 (zT S) q ∧ HM σ3 4 R := r3
    obtain ⟨k0, hW, _⟩ := w3 q R hr
    obtain ⟨σ5, c5, cr⟩ := s_copyRoof (σ := σ4) (a := 4) (b := 0) (by omega) (by omega) (by omega)
    have c5 : Cc 238 0 [vR 96 0, vI 4, vI 0] σ4 = some (none, σ5) := c5
    have i0 : ∀ f : Nat → Option AR, ix 0 5 f = f 0 := fun f => ix_nI (k := 0) (n := 5) (f := f) (by omega) (by omega)
    have H5 : HM σ5 0 R := HM_CR hW.1 (HM_ov hm f4) cr
    have h8 : gI σ3 96 0 8 = 0 := by rw [hg.2.1.2.1, k0]; rfl
    have l5 : gI σ5 2897 0 0 = nI (nN R) := H5.2.1
    rw [s_good hg, cI_s, tv_ite, cond_true, if_pos h8, c4, cV_s, if_pos (by rw [o12]; exact hg.1), c5, cV_s, i0, l5]
    refine ⟨σ5, rfl, ((f0.tr F3.pcs).tr (ov_rf f4)).tr (cp_rf cr.1), ⟨hW, H5⟩, fun k hk => ?_, SM_cp hS cr.1, ?_, Nat.zero_le _, fun i hi => absurd hi (Nat.not_lt_zero _), ?_, ?_⟩
    · obtain ⟨i1, i2⟩ := hI k hk
      exact ⟨(cr.1.i rfl).trans i1, fun z => ⟨(i2 z).1, HM_CRo (i2 z).1.1 (by omega) (i2 z).2 cr⟩⟩
    · exact (cr.1.i rfl).trans o6
    · exact (cr.1.i rfl).trans (o14.trans hg.1)
    · refine (cr.1.i rfl).trans (o15.trans ?_)
      rw [if_pos hg.1]
