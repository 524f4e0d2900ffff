/-! THE REFERENCE: a line -/
def RP (σ : St) (t : TP) (r : PX) : Prop := match r with
  | .inl e => PBd σ e
  | .inr q => PG σ t q.1 ∧ HM σ 4 q.2
theorem RP_th {σ : St} {t : TP} {o : OE} {q : Nat} {R : RF} (h : RG σ t o q) (hm : o = none → HM σ 4 R) : RP σ t (th o (.inr (q, R))) := by
  cases o with
  | none => exact ⟨h, hm rfl⟩
  | some e => exact h
theorem x_isRoom {σ : St} {t : TP} {p : Nat} {R : RF} (hB : TB σ t) (hH : HM σ 4 R) (h : PG σ t p) {k most : Nat} (hk : k < 9) (hn : R 0 k ≤ most) (hm : most ≤ 10) : ∃ σ', Cc 233 0 [vR 96 0, vI 1, vI (nI k), vI (nI most)] σ = some (some (vI (tv (!Nat.beq (R 0 k) most))), σ') ∧ Fr pmS σ σ' ∧ RG σ' t (rE (R 0 k) most t p) (ent t p) := by
  have h10 : ¬ (1 : Int32) = 0 := by decide
  unfold rE
  rw [c_M_isRoom, if_neg h10, s_hasRead hH hk, cI_s]
  by_cases q : R 0 k = most
  · obtain ⟨σ1, c1, f1, b1⟩ := g_fails hB h (k := 3) (by omega) (by omega)
    have c1 : Cc 216 0 [vR 96 0, vI 3] σ = some (none, σ1) := c1
    rw [if_pos (by rw [q]), c1, cV_s, if_neg h10, if_neg b1.ne, if_neg h10, if_neg b1.ne, retZ_0, q, Nat.beq_refl]
    exact ⟨σ1, rfl, f1, b1⟩
  · obtain ⟨σ1, c1, f1, g1⟩ := g_next hB h
    have hb : Nat.beq (R 0 k) most = false := by
      cases hz : Nat.beq (R 0 k) most
      · rfl
      · exact absurd (Nat.eq_of_beq_eq_true hz) q
    rw [if_neg (fun z => q ((nI_eq (by omega) (by omega)).mp z)), if_neg h10, if_pos h.1, c1, cV_s, if_neg h10, if_pos g1.1, retZ_1, hb]
    exact ⟨σ1, rfl, f1, g1⟩
theorem x_noRoom {σ : St} (k most : Int32) : Cc 233 0 [vR 96 0, vI 0, vI k, vI most] σ = some (some (vI (tv false)), σ) := by
  rw [c_M_isRoom, if_pos rfl, if_pos rfl, if_pos rfl]
  rfl
theorem x_placeHere {σ : St} {t : TP} {o : OE} {p : Nat} {R : RF} (hB : TB σ t) (hH : HM σ 4 R) (h : RG σ t o p) (hn : nP R ≤ 6) : ∃ σ' v, Cc 230 0 [vR 96 0] σ = some (some (vI (nI v)), σ') ∧ Fr pmS σ σ' ∧ RG σ' t (oo o (nE t 0 (nP R) p)) (ent t p) ∧ (oo o (nE t 0 (nP R) p) = none → v = vlt t p) := by
  obtain ⟨σ1, v, c1, f1, g1, e1⟩ := x_number hB h (lo := 0) (hx := nP R) (by omega) (by omega)
  have r3 : Cc 226 0 [vR 96 0, vI 3] σ = some (some (vI (nI (nP R))), σ) := s_hasRead hH (k := 3) (by omega)
  have c1 : Cc 220 0 [vR 96 0, vI 0, vI (nI (nP R) - 1)] σ = some (some (vI (nI v)), σ1) := c1
  exact ⟨σ1, v, by rw [c_M_placeHere, r3, cI_s, c1, cI_s], f1, g1, e1⟩
theorem TB_d {σ σ' : St} {t : TP} (h : TB σ t) (h1 : gI σ' 96 0 6 = gI σ 96 0 6) (h2 : ∀ j, gI σ' 358731 0 j = gI σ 358731 0 j) : TB σ' t := ⟨h1.trans h.1, h.2.1, fun i hi => ⟨(h2 i).trans (h.2.2 i hi).1, (h.2.2 i hi).2⟩⟩
/-- the second half of a way -/
theorem x_wayR {σ0 σ : St} {t : TP} {o : OE} {q : Nat} {R : RF} {a : Nat} (hB : TB σ t) (hH : HM σ0 4 R) (h : RG σ t o q) (hW : WF R) (hn : nW R < 10) (f0 : Fr pcS σ0 σ) (d0 : ∀ j, gI σ 51585 0 j = if j = 2 * (40 + nW R) then nI a else gI σ0 51585 0 j) (d1 : ∀ j, gI σ 23385 0 j = gI σ0 23385 0 j) (d2 : ∀ j, gI σ 2897 0 j = gI σ0 2897 0 j ∧ gI σ 31073 0 j = gI σ0 31073 0 j ∧ gI σ 36201 0 j = gI σ0 36201 0 j ∧ gI σ 18289 0 j = gI σ0 18289 0 j ∧ gI σ 31097 0 j = gI σ0 31097 0 j ∧ gI σ 31113 0 j = gI σ0 31113 0 j ∧ gI σ 307601 0 j = gI σ0 307601 0 j) :
    ∃ σ' b, cI (Cc 230 0 [vR 96 0] σ) (fun x21 σ20 => ix (((2 : Int32) * ((40 : Int32) + nI (nW R))) + (1 : Int32)) 100 (fun k22 => cI (Cc 226 0 [vR 96 0, vI 6] (sI σ20 51585 0 k22 x21)) (fun x24 σ23 => cV (Cc 227 0 [vR 96 0, vI 6, vI (x24 + (1 : Int32))] σ23) (fun σ25 => some (none, σ25))))) = some (none, σ') ∧ Fr pcS σ0 σ' ∧ RG σ' t (oo o (nE t 0 (nP R) q)) (ent t q) ∧ (oo o (nE t 0 (nP R) q) = none → b = vlt t q) ∧ HM σ' 4 (A2 R 8 9 6 a b) := by
  have hb := hW.1
  unfold WB at hb
  have hmem : ∀ k, k < 9 → gI σ 23385 0 (k + 9 * 4) = nI (R 0 k) := fun k hk => (d1 _).trans (hH.1 k hk)
  obtain ⟨σ1, b, c1, f1, g1, e1⟩ := x_number hB h (lo := 0) (hx := nP R) (by omega) (by omega)
  have c1 : Cc 220 0 [vR 96 0, vI 0, vI (nI (nP R) - 1)] σ = some (some (vI (nI b)), σ1) := c1
  have r3 : Cc 226 0 [vR 96 0, vI 3] σ = some (some (vI (nI (nP R))), σ) := by
    rw [c_M_hasRead, show (36 : Int32) + 3 = nI 39 from rfl, ix_nI (by omega) (by omega), show 39 = 3 + 9 * 4 from rfl, hmem 3 (by omega)]
  have r6 : Cc 226 0 [vR 96 0, vI 6] (sI σ1 51585 0 (2 * (40 + nW R) + 1) (nI b)) = some (some (vI (nI (nW R))), sI σ1 51585 0 (2 * (40 + nW R) + 1) (nI b)) := by
    rw [c_M_hasRead, show (36 : Int32) + 6 = nI 42 from rfl, ix_nI (by omega) (by omega), gI_sIn (by decide), f1.i rfl, show 42 = 6 + 9 * 4 from rfl, hmem 6 (by omega)]
  have t6 := s_tells (sI σ1 51585 0 (2 * (40 + nW R) + 1) (nI b)) (k := 6) (by omega) (nI (nW R + 1))
  have t6 : Cc 227 0 [vR 96 0, vI 6, vI (nI (nW R + 1))] (sI σ1 51585 0 (2 * (40 + nW R) + 1) (nI b)) = some (none, sI (sI σ1 51585 0 (2 * (40 + nW R) + 1) (nI b)) 23385 0 42 (nI (nW R + 1))) := t6
  have ew : (2 : Int32) * ((40 : Int32) + nI (nW R)) = nI (2 * (40 + nW R)) := e_2m 40 _
  refine ⟨sI (sI σ1 51585 0 (2 * (40 + nW R) + 1) (nI b)) 23385 0 42 (nI (nW R + 1)), b, ?_, ((f0.tr (pm_pc f1)).sI (pc_m_way (by omega) 0)).sI rfl, ?_, e1, ?_⟩
  · rw [c_M_placeHere, r3, cI_s, c1, cI_s, cI_s, ew, nI_1, ix_nI (by omega) (by omega), r6, cI_s, nI_1, t6, cV_s]
  · exact g1.d (fun j => (gI_sIn (by decide)).trans (gI_sIn (by decide))) (fun _ => rfl)
  · refine HM_aW hH (fun j => ?_) (fun j => ?_) (fun j => ?_)
    · rw [gI_sI]
      by_cases hj : j = 42
      · rw [if_pos ⟨rfl, rfl, hj⟩, if_pos hj]
      · rw [if_neg (fun z => hj z.2.2), if_neg hj, gI_sIn (by decide), f1.i rfl, d1]
    · rw [gI_sIn (by decide), gI_sI]
      by_cases hj : j = 2 * (40 + nW R) + 1
      · rw [if_pos ⟨rfl, rfl, hj⟩, if_pos hj]
      · rw [if_neg (fun z => hj z.2.2), if_neg hj, f1.i rfl, d0]
    · have dj := d2 j
      refine ⟨?_, ?_, ?_, ?_, ?_, ?_, ?_⟩
      · rw [gI_sIn (by decide), gI_sIn (by decide), f1.i rfl]; exact dj.1
      · rw [gI_sIn (by decide), gI_sIn (by decide), f1.i rfl]; exact dj.2.1
      · rw [gI_sIn (by decide), gI_sIn (by decide), f1.i rfl]; exact dj.2.2.1
      · rw [gI_sIn (by decide), gI_sIn (by decide), f1.i rfl]; exact dj.2.2.2.1
      · rw [gI_sIn (by decide), gI_sIn (by decide), f1.i rfl]; exact dj.2.2.2.2.1
      · rw [gI_sIn (by decide), gI_sIn (by decide), f1.i rfl]; exact dj.2.2.2.2.2.1
      · rw [gI_sIn (by decide), gI_sIn (by decide), f1.i rfl]; exact dj.2.2.2.2.2.2
theorem RV_eq {x : Int32} {v a : Nat} (h : RV x v) (ha : a ≤ 1000) : (x = nI a) = (v = a) := by
  obtain ⟨m, hm, rfl, h1, h2⟩ := h
  apply propext
  constructor
  · intro z
    have := (nI_eq (by omega) (by omega)).mp z
    by_cases hv : v ≤ 1000
    · rw [← h1 hv]; exact this
    · have := h2 (by omega); omega
  · intro z
    rw [h1 (by omega), z]
theorem x_wayLine {σ : St} {t : TP} {p : Nat} {R : RF} (hB : TB σ t) (hH : HM σ 4 R) (hW : WF R) (h : PG σ t p) (hn : nW R < 10) : ∃ σ', Cc 231 0 [vR 96 0] σ = some (none, σ') ∧ Fr pcS σ σ' ∧ RP σ' t (pWy t R p) := by
  have hb := hW.1
  unfold WB at hb
  obtain ⟨σ1, a, c1, f1, g1, e1⟩ := x_placeHere (o := none) hB hH h (by omega)
  have g1 : RG σ1 t (nE t 0 (nP R) p) (ent t p) := g1
  have e1 : nE t 0 (nP R) p = none → a = vlt t p := e1
  have r6 : Cc 226 0 [vR 96 0, vI 6] σ = some (some (vI (nI (nW R))), σ) := s_hasRead hH (k := 6) (by omega)
  have ew : (2 : Int32) * ((40 : Int32) + nI (nW R)) = nI (2 * (40 + nW R)) := e_2m 40 _
  have F1 : Fr pcS σ (sI σ1 51585 0 (2 * (40 + nW R)) (nI a)) := (pm_pc f1).sI (pc_m_way (by omega) 0)
  have B1 : TB (sI σ1 51585 0 (2 * (40 + nW R)) (nI a)) t := TB_d (hB.pm f1) (gI_sIn (by decide)) (fun j => gI_sIn (by decide))
  have G1 : RG (sI σ1 51585 0 (2 * (40 + nW R)) (nI a)) t (nE t 0 (nP R) p) (ent t p) := g1.d (fun j => gI_sIn (by decide)) (fun _ => rfl)
  have d0 : ∀ j, gI (sI σ1 51585 0 (2 * (40 + nW R)) (nI a)) 51585 0 j = if j = 2 * (40 + nW R) then nI a else gI σ 51585 0 j := fun j => by
    rw [gI_sI]
    by_cases hj : j = 2 * (40 + nW R)
    · rw [if_pos ⟨rfl, rfl, hj⟩, if_pos hj]
    · rw [if_neg (fun z => hj z.2.2), if_neg hj, f1.i rfl]
  have d1 : ∀ j, gI (sI σ1 51585 0 (2 * (40 + nW R)) (nI a)) 23385 0 j = gI σ 23385 0 j := fun j => (gI_sIn (by decide)).trans (f1.i rfl)
  have d2 : ∀ j, gI (sI σ1 51585 0 (2 * (40 + nW R)) (nI a)) 2897 0 j = gI σ 2897 0 j ∧ gI (sI σ1 51585 0 (2 * (40 + nW R)) (nI a)) 31073 0 j = gI σ 31073 0 j ∧ gI (sI σ1 51585 0 (2 * (40 + nW R)) (nI a)) 36201 0 j = gI σ 36201 0 j ∧ gI (sI σ1 51585 0 (2 * (40 + nW R)) (nI a)) 18289 0 j = gI σ 18289 0 j ∧ gI (sI σ1 51585 0 (2 * (40 + nW R)) (nI a)) 31097 0 j = gI σ 31097 0 j ∧ gI (sI σ1 51585 0 (2 * (40 + nW R)) (nI a)) 31113 0 j = gI σ 31113 0 j ∧ gI (sI σ1 51585 0 (2 * (40 + nW R)) (nI a)) 307601 0 j = gI σ 307601 0 j := fun j => ⟨(gI_sIn (by decide)).trans (f1.i rfl), (gI_sIn (by decide)).trans (f1.i rfl), (gI_sIn (by decide)).trans (f1.i rfl), (gI_sIn (by decide)).trans (f1.i rfl), (gI_sIn (by decide)).trans (f1.i rfl), (gI_sIn (by decide)).trans (f1.i rfl), (gI_sIn (by decide)).trans (f1.i rfl)⟩
  have ewy : gI (sI σ1 51585 0 (2 * (40 + nW R)) (nI a)) 51585 0 (2 * (40 + nW R)) = nI a := gI_sIs _ _ _ _ _
  rw [c_M_wayLine, r6, cI_s, c1, cI_s, ew, ix_nI (by omega) (by omega)]
  simp only [ix_nI (show 2 * (40 + nW R) < 100 by omega) (show 100 < 2 ^ 31 by omega), ewy]
  generalize sI σ1 51585 0 (2 * (40 + nW R)) (nI a) = σ2 at F1 B1 G1 d0 d1 d2
  have fin : ∀ (o' : OE) (σ3 : St), RG σ3 t o' (ent t p) → Fr pmS σ2 σ3 → oo o' (nE t 0 (nP R) (ent t p)) = oo (oo (nE t 0 (nP R) p) (nE t 0 (nP R) (ent t p))) (dE (Nat.beq (vlt t p) (vlt t (ent t p))) t (ent t p)) → ∃ σ', cI (Cc 230 0 [vR 96 0] σ3) (fun x21 σ20 => ix (nI (2 * (40 + nW R)) + (1 : Int32)) 100 (fun k22 => cI (Cc 226 0 [vR 96 0, vI 6] (sI σ20 51585 0 k22 x21)) (fun x24 σ23 => cV (Cc 227 0 [vR 96 0, vI 6, vI (x24 + (1 : Int32))] σ23) (fun σ25 => some (none, σ25))))) = some (none, σ') ∧ Fr pcS σ σ' ∧ RP σ' t (pWy t R p) := by
    intro o' σ3 g3 f3 eo
    obtain ⟨σ4, b, c4, f4, g4, e4, m4⟩ := x_wayR (σ0 := σ) (a := a) (B1.pm f3) hH g3 hW hn (F1.tr (pm_pc f3)) (fun j => by rw [f3.i rfl, d0]) (fun j => (f3.i rfl).trans (d1 j)) (fun j => ⟨(f3.i rfl).trans (d2 j).1, (f3.i rfl).trans (d2 j).2.1, (f3.i rfl).trans (d2 j).2.2.1, (f3.i rfl).trans (d2 j).2.2.2.1, (f3.i rfl).trans (d2 j).2.2.2.2.1, (f3.i rfl).trans (d2 j).2.2.2.2.2.1, (f3.i rfl).trans (d2 j).2.2.2.2.2.2⟩)
    rw [ew] at c4
    refine ⟨σ4, c4, f4, ?_⟩
    rw [eo] at g4 e4
    have hp : pWy t R p = th (oo (oo (nE t 0 (nP R) p) (nE t 0 (nP R) (ent t p))) (dE (Nat.beq (vlt t p) (vlt t (ent t p))) t (ent t p))) (.inr (e2 t p, A2 R 8 9 6 (vlt t p) (vlt t (ent t p)))) := by
      rw [th_oo, th_oo]
      rfl
    rw [hp]
    refine RP_th g4 (fun z => ?_)
    have z1 := oo_n (oo_n z).1
    rw [← e1 z1.1, ← e4 z]
    exact m4
  cases ho : nE t 0 (nP R) p with
  | some e =>
    rw [ho] at G1 e1 fin
    have G1' : PBd σ2 e := G1
    rw [if_neg G1'.ne]
    exact fin (some e) σ2 G1 Fr.rf rfl
  | none =>
    rw [ho] at G1 e1 fin
    have G1' : PG σ2 t (ent t p) := G1
    have ha : a < nP R := by rw [e1 rfl]; exact (nE_n ho).2.2
    have hkn : knt t (ent t p) ≤ 5 := by
      unfold knt kd
      split
      · exact (bk_le _).2
      · omega
    rw [if_pos G1'.1, G1'.2.1.2.1]
    by_cases q2 : knt t (ent t p) = 2
    · have hv := G1'.2.1.2.2.2.1 q2
      rw [q2, if_pos q_2]
      by_cases q3 : vlt t (ent t p) = a
      · have hx : gI σ2 96 0 10 = nI a := by rw [RV_eq hv (by omega)]; exact q3
        obtain ⟨σ3, c3, f3, b3⟩ := g_fails B1 G1' (k := 2) (by omega) (by omega)
        have c3 : Cc 216 0 [vR 96 0, vI 2] σ2 = some (none, σ3) := c3
        have hno : nE t 0 (nP R) (ent t p) = none := by
          unfold nE
          rw [q2, q3, show Nat.blt a (nP R) = true from Nat.ble_eq_true_of_le ha]
          rfl
        rw [if_pos hx, c3, cV_s]
        exact fin (some (2, stt t (ent t p))) σ3 b3 f3 (by rw [hno, ← e1 rfl, q3, Nat.beq_refl]; rfl)
      · have hx : ¬ gI σ2 96 0 10 = nI a := by rw [RV_eq hv (by omega)]; exact q3
        have hbq : Nat.beq (vlt t p) (vlt t (ent t p)) = false := by
          cases hz : Nat.beq (vlt t p) (vlt t (ent t p))
          · rfl
          · exact absurd ((Nat.eq_of_beq_eq_true hz).symm.trans (e1 rfl).symm) q3
        rw [if_neg hx]
        refine fin none σ2 G1 Fr.rf ?_
        rw [hbq]
        cases nE t 0 (nP R) (ent t p) <;> rfl
    · rw [if_neg (q_n2 (by omega) q2)]
      refine fin none σ2 G1 Fr.rf ?_
      have : Nat.beq (knt t (ent t p)) 2 = false := by
        cases hz : Nat.beq (knt t (ent t p)) 2
        · rfl
        · exact absurd (Nat.eq_of_beq_eq_true hz) q2
      unfold nE
      rw [this]
      rfl
