/-! THE REFERENCE: points -/
def apS (a b t i j : Nat) : Bool := pmS t i j || (Nat.beq t a && Nat.ble b j)
theorem pm_ap {a b : Nat} {σ σ' : St} (h : Fr pmS σ σ') : Fr (apS a b) σ σ' := h.up (fun t i j hq => by
  unfold apS at hq
  rw [Bool.or_eq_false_iff] at hq
  exact hq.1)
theorem ap_a {a b j : Nat} (h : b ≤ j) (i : Nat) : apS a b a i j = true := by
  unfold apS
  rw [Nat.beq_refl, Nat.ble_eq_true_of_le h, Bool.true_and, Bool.or_true]
theorem in30 : (nI 31 - 1 : Int32) = 30 := by decide
theorem in30l : ((nI 31 - 1 : Int32)).toInt64 = (30 : Int64) := by decide
theorem in0l : ((nI 0 : Int32)).toInt64 = (0 : Int64) := by decide
theorem e_2m (a j : Nat) : (2 : Int32) * (nI a + nI j) = nI (2 * (a + j)) := by
  rw [nI_add]
  exact pk_mul 2 _
theorem tk_in {σ : St} {t : TP} {q : Nat} (h : PG σ t q) : (if gI σ 96 0 8 = (2 : Int32) then cI (Cc 204 0 [vL (Int32.toInt64 (gI σ 96 0 10)), vL 0, vL 30] σ) (fun x4 σ3 => if x4 = 0 then (some (some (vI 0), σ3)) else some (some (vI 1), σ3)) else some (some (vI 0), σ)) = some (some (vI (tv (Nat.beq (knt t q) 2 && Nat.blt (vlt t q) 31))), σ) := by
  have hkn : knt t q ≤ 5 := by
    unfold knt kd
    split
    · exact (bk_le _).2
    · omega
  rw [h.2.1.2.1]
  by_cases q2 : knt t q = 2
  · have hv := RV_in (h.2.1.2.2.2.1 q2) (lo := 0) (hx := 31) (by omega) (by omega)
    rw [in30l, in0l] at hv
    rw [q2, if_pos q_2, s_in, hv, cI_s, tv_ite, show Nat.ble 0 (vlt t q) = true from rfl, Bool.true_and, show Nat.beq 2 2 = true from rfl, Bool.true_and]
    cases Nat.blt (vlt t q) 31 <;> rfl
  · have : Nat.beq (knt t q) 2 = false := by
      cases hz : Nat.beq (knt t q) 2
      · rfl
      · exact absurd (Nat.eq_of_beq_eq_true hz) q2
    rw [if_neg (q_n2 (by omega) q2), this]
    rfl
theorem nE_b {t : TP} {q hx : Nat} : (Nat.beq (knt t q) 2 && Nat.blt (vlt t q) hx) = true ↔ nE t 0 hx q = none := by
  unfold nE
  cases Nat.beq (knt t q) 2
  · exact ⟨fun z => (by cases z), fun z => (by cases z)⟩
  · rw [Bool.true_and, cond_true, show Nat.ble 0 (vlt t q) = true from rfl, Bool.true_and]
    cases Nat.blt (vlt t q) hx
    · exact ⟨fun z => (by cases z), fun z => (by cases z)⟩
    · exact ⟨fun _ => rfl, fun _ => rfl⟩
theorem nE_v {t : TP} {q hx : Nat} (h : nE t 0 hx q = none) : vlt t q < hx := (nE_n h).2.2
theorem s_taken_0 {σ : St} {R : RF} (h : HM σ 4 R) (hW : WF R) {x y : Nat} (hx : x < 2 ^ 31) (hy : y < 2 ^ 31) : Cc 228 0 [vR 96 0, vR 31073 0, vI 24, vI (nI (nP R)), vI (nI x), vI (nI y)] σ = some (some (vI (tv (tkP (nP R) (px R) (py R) x y))), σ) := by
  have hb := hW.1
  unfold WB at hb
  rw [c_M_isTaken_0]
  refine lpZ (V := fun j => Vv 228 0 3 [some (vR 96 0), some (vR 31073 0), some (vI 24), some (vI (nI (nP R))), some (vI (nI x)), some (vI (nI y)), some (vI (nI j))] [] σ) (nP R) (fun j hj => ?_) ?_
  · show Vv _ _ _ _ _ _ = _
    have hc := h.2.2.1 j hj
    have hv := (hW.2.2.1 j hj)
    have hv1 : px R j ≤ 30 := hv.1
    have hv2 : py R j ≤ 30 := hv.2
    have e1 : (2 : Int32) * ((24 : Int32) + nI j) = nI (2 * (24 + j)) := e_2m 24 j
    rw [v_M_isTaken_3_0, if_pos (nI_lt hj (by omega)), e1, nI_1, nI_1, ix_nI (by omega) (by omega), ix_nI (by omega) (by omega), show 2 * (24 + j) + 1 = 2 * j + 1 + 12 * 4 by omega, show 2 * (24 + j) = 2 * j + 12 * 4 by omega, hc.1, hc.2, retZ_1]
    by_cases q1 : px R j = x
    · rw [if_pos (by rw [q1])]
      by_cases q2 : py R j = y
      · rw [if_pos (by rw [q2]), q1, q2, Nat.beq_refl, Nat.beq_refl]
        rfl
      · rw [if_neg (fun z => q2 ((nI_eq (by omega) hy).mp z))]
        have : Nat.beq (py R j) y = false := by
          cases hz : Nat.beq (py R j) y
          · rfl
          · exact absurd (Nat.eq_of_beq_eq_true hz) q2
        rw [this, Bool.and_false]
        rfl
    · rw [if_neg (fun z => q1 ((nI_eq (by omega) hx).mp z))]
      have : Nat.beq (px R j) x = false := by
        cases hz : Nat.beq (px R j) x
        · rfl
        · exact absurd (Nat.eq_of_beq_eq_true hz) q1
      rw [this, Bool.false_and]
      rfl
  · show Vv _ _ _ _ _ _ = _
    rw [v_M_isTaken_3_0, if_neg (nI_nlt (Nat.le_refl _) (by omega)), retZ_0]
theorem s_taken_1 {σ : St} {R : RF} (h : HM σ 4 R) (hW : WF R) {x y : Nat} (hx : x < 2 ^ 31) (hy : y < 2 ^ 31) : Cc 228 0 [vR 96 0, vR 36201 0, vI 28, vI (nI (nM R)), vI (nI x), vI (nI y)] σ = some (some (vI (tv (tkP (nM R) (mx R) (my R) x y))), σ) := by
  have hb := hW.1
  unfold WB at hb
  rw [c_M_isTaken_1]
  refine lpZ (V := fun j => Vv 228 0 3 [some (vR 96 0), some (vR 36201 0), some (vI 28), some (vI (nI (nM R))), some (vI (nI x)), some (vI (nI y)), some (vI (nI j))] [] σ) (nM R) (fun j hj => ?_) ?_
  · show Vv _ _ _ _ _ _ = _
    have hc := h.2.2.2.1 j hj
    have hv := (hW.2.2.2.1 j hj)
    have hv1 : mx R j ≤ 30 := hv.1
    have hv2 : my R j ≤ 30 := hv.2.1
    have e1 : (2 : Int32) * ((28 : Int32) + nI j) = nI (2 * (28 + j)) := e_2m 28 j
    rw [v_M_isTaken_3_1, if_pos (nI_lt hj (by omega)), e1, nI_1, nI_1, ix_nI (by omega) (by omega), ix_nI (by omega) (by omega), show 2 * (28 + j) + 1 = 2 * j + 1 + 14 * 4 by omega, show 2 * (28 + j) = 2 * j + 14 * 4 by omega, hc.1, hc.2.1, retZ_1]
    by_cases q1 : mx R j = x
    · rw [if_pos (by rw [q1])]
      by_cases q2 : my R j = y
      · rw [if_pos (by rw [q2]), q1, q2, Nat.beq_refl, Nat.beq_refl]
        rfl
      · rw [if_neg (fun z => q2 ((nI_eq (by omega) hy).mp z))]
        have : Nat.beq (my R j) y = false := by
          cases hz : Nat.beq (my R j) y
          · rfl
          · exact absurd (Nat.eq_of_beq_eq_true hz) q2
        rw [this, Bool.and_false]
        rfl
    · rw [if_neg (fun z => q1 ((nI_eq (by omega) hx).mp z))]
      have : Nat.beq (mx R j) x = false := by
        cases hz : Nat.beq (mx R j) x
        · rfl
        · exact absurd (Nat.eq_of_beq_eq_true hz) q1
      rw [this, Bool.false_and]
      rfl
  · show Vv _ _ _ _ _ _ = _
    rw [v_M_isTaken_3_1, if_neg (nI_nlt (Nat.le_refl _) (by omega)), retZ_0]
theorem s_taken_2 {σ : St} {R : RF} (h : HM σ 4 R) (hW : WF R) {x y : Nat} (hx : x < 2 ^ 31) (hy : y < 2 ^ 31) : Cc 228 0 [vR 96 0, vR 31097 0, vI 24, vI (nI (nF R)), vI (nI x), vI (nI y)] σ = some (some (vI (tv (tkP (nF R) (fx R) (fy R) x y))), σ) := by
  have hb := hW.1
  unfold WB at hb
  rw [c_M_isTaken_2]
  refine lpZ (V := fun j => Vv 228 0 3 [some (vR 96 0), some (vR 31097 0), some (vI 24), some (vI (nI (nF R))), some (vI (nI x)), some (vI (nI y)), some (vI (nI j))] [] σ) (nF R) (fun j hj => ?_) ?_
  · show Vv _ _ _ _ _ _ = _
    have hc := h.2.2.2.2.1 j hj
    have hv := (hW.2.2.2.2.1 j hj)
    have hv1 : fx R j ≤ 30 := hv.1
    have hv2 : fy R j ≤ 30 := hv.2.1
    have e1 : (2 : Int32) * ((24 : Int32) + nI j) = nI (2 * (24 + j)) := e_2m 24 j
    rw [v_M_isTaken_3_2, if_pos (nI_lt hj (by omega)), e1, nI_1, nI_1, ix_nI (by omega) (by omega), ix_nI (by omega) (by omega), show 2 * (24 + j) + 1 = 2 * j + 1 + 12 * 4 by omega, show 2 * (24 + j) = 2 * j + 12 * 4 by omega, hc.1, hc.2, retZ_1]
    by_cases q1 : fx R j = x
    · rw [if_pos (by rw [q1])]
      by_cases q2 : fy R j = y
      · rw [if_pos (by rw [q2]), q1, q2, Nat.beq_refl, Nat.beq_refl]
        rfl
      · rw [if_neg (fun z => q2 ((nI_eq (by omega) hy).mp z))]
        have : Nat.beq (fy R j) y = false := by
          cases hz : Nat.beq (fy R j) y
          · rfl
          · exact absurd (Nat.eq_of_beq_eq_true hz) q2
        rw [this, Bool.and_false]
        rfl
    · rw [if_neg (fun z => q1 ((nI_eq (by omega) hx).mp z))]
      have : Nat.beq (fx R j) x = false := by
        cases hz : Nat.beq (fx R j) x
        · rfl
        · exact absurd (Nat.eq_of_beq_eq_true hz) q1
      rw [this, Bool.false_and]
      rfl
  · show Vv _ _ _ _ _ _ = _
    rw [v_M_isTaken_3_2, if_neg (nI_nlt (Nat.le_refl _) (by omega)), retZ_0]
theorem x_pt124_0 {σ : St} {t : TP} {o : OE} {q : Nat} (hB : TB σ t) (h : RG σ t o q) {k x : Nat} (hk0 : 48 ≤ 2 * k) (hk : 2 * k + 1 < 60) (l4 : Int32) : ∃ σ' y, Vv 229 0 124 [some (vR 96 0), some (vR 31073 0), some (vI (nI k)), some (vI (nI x)), some (vI l4)] [] σ = some (none, σ') ∧ Fr (apS 31073 48) σ σ' ∧ (∀ j, gI σ' 31073 0 j = if j = 2 * k + 1 then nI y else if j = 2 * k then nI x else gI σ 31073 0 j) ∧ RG σ' t (oo o (nE t 0 31 q)) (ent t q) ∧ (oo o (nE t 0 31 q) = none → y = vlt t q) := by
  have F1 : Fr (apS 31073 48) σ (sI σ 31073 0 (2 * k) (nI x)) := Fr.rf.sI (ap_a hk0 0)
  have B1 : TB (sI σ 31073 0 (2 * k) (nI x)) t := ⟨hB.1, hB.2.1, fun i hi => ⟨(gI_sIn (by decide)).trans (hB.2.2 i hi).1, (hB.2.2 i hi).2⟩⟩
  have G1 : RG (sI σ 31073 0 (2 * k) (nI x)) t o q := h.d (fun j => gI_sIn (by decide)) (fun _ => rfl)
  obtain ⟨σ2, y, c2, f2, g2, e2⟩ := x_number B1 G1 (lo := 0) (hx := 31) (by omega) (by omega)
  have c2 : Cc 220 0 [vR 96 0, vI 0, vI 30] (sI σ 31073 0 (2 * k) (nI x)) = some (some (vI (nI y)), σ2) := by
    rw [in30] at c2
    exact c2
  refine ⟨sI σ2 31073 0 (2 * k + 1) (nI y), y, ?_, (F1.tr (pm_ap f2)).sI (ap_a (by omega) 0), fun j => ?_, g2.d (fun j => gI_sIn (by decide)) (fun _ => rfl), e2⟩
  · have e1 : (2 : Int32) * nI k = nI (2 * k) := pk_mul 2 k
    rw [v_M_pointHere_124_0, e1, ix_nI (by omega) (by omega), c2, cI_s, nI_1, ix_nI (by omega) (by omega)]
  · rw [gI_sI]
    by_cases q1 : j = 2 * k + 1
    · rw [if_pos ⟨rfl, rfl, q1⟩, if_pos q1]
    · rw [if_neg (fun z => q1 z.2.2), if_neg q1, f2.i rfl, gI_sI]
      by_cases q2 : j = 2 * k
      · rw [if_pos ⟨rfl, rfl, q2⟩, if_pos q2]
      · rw [if_neg (fun z => q2 z.2.2), if_neg q2]
theorem x_point_0 {σ : St} {t : TP} {p : Nat} {R : RF} (hB : TB σ t) (hH : HM σ 4 R) (hW : WF R) (h : PG σ t p) (hn : nP R < 6) : ∃ σ' x y, Cc 229 0 [vR 96 0, vR 31073 0, vI (nI (24 + nP R))] σ = some (none, σ') ∧ Fr (apS 31073 48) σ σ' ∧ (∀ j, gI σ' 31073 0 j = if j = 2 * (24 + nP R) + 1 then nI y else if j = 2 * (24 + nP R) then nI x else gI σ 31073 0 j) ∧ RG σ' t (oo (oo (nE t 0 31 p) (nE t 0 31 (ent t p))) (dE (tkB R (vlt t p) (vlt t (ent t p))) t (ent t p))) (ent t (ent t p)) ∧ (oo (oo (nE t 0 31 p) (nE t 0 31 (ent t p))) (dE (tkB R (vlt t p) (vlt t (ent t p))) t (ent t p)) = none → x = vlt t p ∧ y = vlt t (ent t p)) := by
  have hb := hW.1
  unfold WB at hb
  obtain ⟨σ1, x, c1, f1, g1, e1⟩ := x_number (o := none) hB h (lo := 0) (hx := 31) (by omega) (by omega)
  have c1 : Cc 220 0 [vR 96 0, vI 0, vI 30] σ = some (some (vI (nI x)), σ1) := by
    rw [in30] at c1
    exact c1
  have g1 : RG σ1 t (nE t 0 31 p) (ent t p) := g1
  have e1 : nE t 0 31 p = none → x = vlt t p := e1
  have B1 := hB.pm f1
  have H1 := HM_pm hH f1
  have fin : ∀ (o' : OE) (σ2 : St) (l4 : Int32), RG σ2 t o' (ent t p) → Fr pmS σ1 σ2 → Cc 229 0 [vR 96 0, vR 31073 0, vI (nI (24 + nP R))] σ = Vv 229 0 124 [some (vR 96 0), some (vR 31073 0), some (vI (nI (24 + nP R))), some (vI (nI x)), some (vI l4)] [] σ2 → oo o' (nE t 0 31 (ent t p)) = oo (oo (nE t 0 31 p) (nE t 0 31 (ent t p))) (dE (tkB R (vlt t p) (vlt t (ent t p))) t (ent t p)) → ∃ σ' x y, Cc 229 0 [vR 96 0, vR 31073 0, vI (nI (24 + nP R))] σ = some (none, σ') ∧ Fr (apS 31073 48) σ σ' ∧ (∀ j, gI σ' 31073 0 j = if j = 2 * (24 + nP R) + 1 then nI y else if j = 2 * (24 + nP R) then nI x else gI σ 31073 0 j) ∧ RG σ' t (oo (oo (nE t 0 31 p) (nE t 0 31 (ent t p))) (dE (tkB R (vlt t p) (vlt t (ent t p))) t (ent t p))) (ent t (ent t p)) ∧ (oo (oo (nE t 0 31 p) (nE t 0 31 (ent t p))) (dE (tkB R (vlt t p) (vlt t (ent t p))) t (ent t p)) = none → x = vlt t p ∧ y = vlt t (ent t p)) := by
    intro o' σ2 l4 g2 f2 c2 eo
    obtain ⟨σ3, y, c3, f3, d3, g3, e3⟩ := x_pt124_0 (B1.pm f2) g2 (k := 24 + nP R) (x := x) (by omega) (by omega) l4
    rw [eo] at g3 e3
    exact ⟨σ3, x, y, c2.trans c3, ((pm_ap f1).tr (pm_ap f2)).tr f3, fun j => by rw [d3 j, f2.i rfl, f1.i rfl], g3, fun z => ⟨e1 (oo_n (oo_n z).1).1, e3 z⟩⟩
  cases ho : nE t 0 31 p with
  | some e =>
    rw [ho] at g1 e1 fin
    have g1' : PBd σ1 e := g1
    refine fin (some e) σ1 0 g1 Fr.rf ?_ rfl
    rw [c_M_pointHere_0, c1, cI_s, if_neg g1'.ne, v_M_pointHere_45_0, if_pos rfl]
  | none =>
    rw [ho] at g1 e1 fin
    have g1' : PG σ1 t (ent t p) := g1
    have hx : x < 31 := by rw [e1 rfl]; exact nE_v ho
    have hin := tk_in g1'
    cases hi : Nat.beq (knt t (ent t p)) 2 && Nat.blt (vlt t (ent t p)) 31
    · have hne : nE t 0 31 (ent t p) ≠ none := fun z => by
        rw [nE_b.mpr z] at hi
        cases hi
      obtain ⟨e, he⟩ : ∃ e, nE t 0 31 (ent t p) = some e := by
        cases hz : nE t 0 31 (ent t p) with
        | none => exact absurd hz hne
        | some e => exact ⟨e, rfl⟩
      refine fin none σ1 0 g1 Fr.rf ?_ (by rw [he]; rfl)
      rw [hi] at hin
      rw [c_M_pointHere_0, c1, cI_s, if_pos g1'.1]
      rw [g1'.2.1.2.1] at hin ⊢
      by_cases q2 : nI (knt t (ent t p)) = (2 : Int32)
      · rw [if_pos q2, s_in, cI_s] at hin
        rw [if_pos q2, s_in, cI_s, tv_ite]
        rw [tv_ite] at hin
        revert hin
        cases decide ((0 : Int64) ≤ (gI σ1 96 0 10).toInt64 ∧ (gI σ1 96 0 10).toInt64 ≤ 30)
        · intro _
          rw [cond_false, v_M_pointHere_45_0, if_pos rfl]
        · intro hin
          rw [cond_true] at hin
          have := (Prod.mk.inj (Option.some.inj hin)).1
          exact absurd this (by decide)
      · rw [if_neg q2, v_M_pointHere_45_0, if_pos rfl]
    · have hno := nE_b.mp hi
      have hy := nE_v hno
      rw [hi] at hin
      have h2 : knt t (ent t p) = 2 := (nE_n hno).1
      have hv : gI σ1 96 0 10 = nI (vlt t (ent t p)) := by
        obtain ⟨m, hm, q1, q2, _⟩ := g1'.2.1.2.2.2.1 h2
        rw [q1, q2 (by omega)]
      have c45 : Cc 229 0 [vR 96 0, vR 31073 0, vI (nI (24 + nP R))] σ = Vv 229 0 45 [some (vR 96 0), some (vR 31073 0), some (vI (nI (24 + nP R))), some (vI (nI x)), some (vI 1)] [] σ1 := by
        rw [c_M_pointHere_0, c1, cI_s, if_pos g1'.1]
        rw [g1'.2.1.2.1, h2, if_pos q_2, s_in, cI_s, tv_ite] at hin
        rw [g1'.2.1.2.1, h2, if_pos q_2, s_in, cI_s, tv_ite]
        revert hin
        cases decide ((0 : Int64) ≤ (gI σ1 96 0 10).toInt64 ∧ (gI σ1 96 0 10).toInt64 ≤ 30)
        · intro hin
          rw [cond_false] at hin
          have := (Prod.mk.inj (Option.some.inj hin)).1
          exact absurd this (by decide)
        · intro _
          rfl
      have r3 : Cc 226 0 [vR 96 0, vI 3] σ1 = some (some (vI (nI (nP R))), σ1) := s_hasRead H1 (k := 3) (by omega)
      have r4 : Cc 226 0 [vR 96 0, vI 4] σ1 = some (some (vI (nI (nM R))), σ1) := s_hasRead H1 (k := 4) (by omega)
      have r5 : Cc 226 0 [vR 96 0, vI 5] σ1 = some (some (vI (nI (nF R))), σ1) := s_hasRead H1 (k := 5) (by omega)
      have h10 : ¬ (1 : Int32) = 0 := by decide
      rw [v_M_pointHere_45_0, if_neg h10, r3, cI_s, hv, s_taken_0 H1 hW (by omega) (by omega), cI_s, tv_ite, r4, cI_s, hv, s_taken_1 H1 hW (by omega) (by omega), cI_s, tv_ite, r5, cI_s, hv, s_taken_2 H1 hW (by omega) (by omega), cI_s, tv_ite] at c45
      have et : tkB R (vlt t p) (vlt t (ent t p)) = (tkP (nP R) (px R) (py R) x (vlt t (ent t p)) || tkP (nM R) (mx R) (my R) x (vlt t (ent t p)) || tkP (nF R) (fx R) (fy R) x (vlt t (ent t p))) := by
        rw [e1 rfl]
        rfl
      obtain ⟨σ2, c2, f2, b2⟩ := g_fails B1 g1' (k := 2) (by omega) (by omega)
      have c2 : Cc 216 0 [vR 96 0, vI 2] σ1 = some (none, σ2) := c2
      rw [c2, cV_s] at c45
      cases t1 : tkP (nP R) (px R) (py R) x (vlt t (ent t p))
      · rw [t1, cond_false] at c45
        cases t2 : tkP (nM R) (mx R) (my R) x (vlt t (ent t p))
        · rw [t2, cond_false] at c45
          cases t3 : tkP (nF R) (fx R) (fy R) x (vlt t (ent t p))
          · rw [t3, cond_false] at c45
            exact fin none σ1 1 g1 Fr.rf c45 (by rw [hno, et, t1, t2, t3]; rfl)
          · rw [t3, cond_true] at c45
            exact fin (some (2, stt t (ent t p))) σ2 1 b2 f2 c45 (by rw [hno, et, t1, t2, t3]; rfl)
        · rw [t2, cond_true] at c45
          exact fin (some (2, stt t (ent t p))) σ2 1 b2 f2 c45 (by rw [hno, et, t1, t2]; rfl)
      · rw [t1, cond_true] at c45
        exact fin (some (2, stt t (ent t p))) σ2 1 b2 f2 c45 (by rw [hno, et, t1]; rfl)
theorem x_pt124_1 {σ : St} {t : TP} {o : OE} {q : Nat} (hB : TB σ t) (h : RG σ t o q) {k x : Nat} (hk0 : 56 ≤ 2 * k) (hk : 2 * k + 1 < 70) (l4 : Int32) : ∃ σ' y, Vv 229 0 124 [some (vR 96 0), some (vR 36201 0), some (vI (nI k)), some (vI (nI x)), some (vI l4)] [] σ = some (none, σ') ∧ Fr (apS 36201 56) σ σ' ∧ (∀ j, gI σ' 36201 0 j = if j = 2 * k + 1 then nI y else if j = 2 * k then nI x else gI σ 36201 0 j) ∧ RG σ' t (oo o (nE t 0 31 q)) (ent t q) ∧ (oo o (nE t 0 31 q) = none → y = vlt t q) := by
  have F1 : Fr (apS 36201 56) σ (sI σ 36201 0 (2 * k) (nI x)) := Fr.rf.sI (ap_a hk0 0)
  have B1 : TB (sI σ 36201 0 (2 * k) (nI x)) t := ⟨hB.1, hB.2.1, fun i hi => ⟨(gI_sIn (by decide)).trans (hB.2.2 i hi).1, (hB.2.2 i hi).2⟩⟩
  have G1 : RG (sI σ 36201 0 (2 * k) (nI x)) t o q := h.d (fun j => gI_sIn (by decide)) (fun _ => rfl)
  obtain ⟨σ2, y, c2, f2, g2, e2⟩ := x_number B1 G1 (lo := 0) (hx := 31) (by omega) (by omega)
  have c2 : Cc 220 0 [vR 96 0, vI 0, vI 30] (sI σ 36201 0 (2 * k) (nI x)) = some (some (vI (nI y)), σ2) := by
    rw [in30] at c2
    exact c2
  refine ⟨sI σ2 36201 0 (2 * k + 1) (nI y), y, ?_, (F1.tr (pm_ap f2)).sI (ap_a (by omega) 0), fun j => ?_, g2.d (fun j => gI_sIn (by decide)) (fun _ => rfl), e2⟩
  · have e1 : (2 : Int32) * nI k = nI (2 * k) := pk_mul 2 k
    rw [v_M_pointHere_124_1, e1, ix_nI (by omega) (by omega), c2, cI_s, nI_1, ix_nI (by omega) (by omega)]
  · rw [gI_sI]
    by_cases q1 : j = 2 * k + 1
    · rw [if_pos ⟨rfl, rfl, q1⟩, if_pos q1]
    · rw [if_neg (fun z => q1 z.2.2), if_neg q1, f2.i rfl, gI_sI]
      by_cases q2 : j = 2 * k
      · rw [if_pos ⟨rfl, rfl, q2⟩, if_pos q2]
      · rw [if_neg (fun z => q2 z.2.2), if_neg q2]
theorem x_point_1 {σ : St} {t : TP} {p : Nat} {R : RF} (hB : TB σ t) (hH : HM σ 4 R) (hW : WF R) (h : PG σ t p) (hn : nM R < 7) : ∃ σ' x y, Cc 229 0 [vR 96 0, vR 36201 0, vI (nI (28 + nM R))] σ = some (none, σ') ∧ Fr (apS 36201 56) σ σ' ∧ (∀ j, gI σ' 36201 0 j = if j = 2 * (28 + nM R) + 1 then nI y else if j = 2 * (28 + nM R) then nI x else gI σ 36201 0 j) ∧ RG σ' t (oo (oo (nE t 0 31 p) (nE t 0 31 (ent t p))) (dE (tkB R (vlt t p) (vlt t (ent t p))) t (ent t p))) (ent t (ent t p)) ∧ (oo (oo (nE t 0 31 p) (nE t 0 31 (ent t p))) (dE (tkB R (vlt t p) (vlt t (ent t p))) t (ent t p)) = none → x = vlt t p ∧ y = vlt t (ent t p)) := by
  have hb := hW.1
  unfold WB at hb
  obtain ⟨σ1, x, c1, f1, g1, e1⟩ := x_number (o := none) hB h (lo := 0) (hx := 31) (by omega) (by omega)
  have c1 : Cc 220 0 [vR 96 0, vI 0, vI 30] σ = some (some (vI (nI x)), σ1) := by
    rw [in30] at c1
    exact c1
  have g1 : RG σ1 t (nE t 0 31 p) (ent t p) := g1
  have e1 : nE t 0 31 p = none → x = vlt t p := e1
  have B1 := hB.pm f1
  have H1 := HM_pm hH f1
  have fin : ∀ (o' : OE) (σ2 : St) (l4 : Int32), RG σ2 t o' (ent t p) → Fr pmS σ1 σ2 → Cc 229 0 [vR 96 0, vR 36201 0, vI (nI (28 + nM R))] σ = Vv 229 0 124 [some (vR 96 0), some (vR 36201 0), some (vI (nI (28 + nM R))), some (vI (nI x)), some (vI l4)] [] σ2 → oo o' (nE t 0 31 (ent t p)) = oo (oo (nE t 0 31 p) (nE t 0 31 (ent t p))) (dE (tkB R (vlt t p) (vlt t (ent t p))) t (ent t p)) → ∃ σ' x y, Cc 229 0 [vR 96 0, vR 36201 0, vI (nI (28 + nM R))] σ = some (none, σ') ∧ Fr (apS 36201 56) σ σ' ∧ (∀ j, gI σ' 36201 0 j = if j = 2 * (28 + nM R) + 1 then nI y else if j = 2 * (28 + nM R) then nI x else gI σ 36201 0 j) ∧ RG σ' t (oo (oo (nE t 0 31 p) (nE t 0 31 (ent t p))) (dE (tkB R (vlt t p) (vlt t (ent t p))) t (ent t p))) (ent t (ent t p)) ∧ (oo (oo (nE t 0 31 p) (nE t 0 31 (ent t p))) (dE (tkB R (vlt t p) (vlt t (ent t p))) t (ent t p)) = none → x = vlt t p ∧ y = vlt t (ent t p)) := by
    intro o' σ2 l4 g2 f2 c2 eo
    obtain ⟨σ3, y, c3, f3, d3, g3, e3⟩ := x_pt124_1 (B1.pm f2) g2 (k := 28 + nM R) (x := x) (by omega) (by omega) l4
    rw [eo] at g3 e3
    exact ⟨σ3, x, y, c2.trans c3, ((pm_ap f1).tr (pm_ap f2)).tr f3, fun j => by rw [d3 j, f2.i rfl, f1.i rfl], g3, fun z => ⟨e1 (oo_n (oo_n z).1).1, e3 z⟩⟩
  cases ho : nE t 0 31 p with
  | some e =>
    rw [ho] at g1 e1 fin
    have g1' : PBd σ1 e := g1
    refine fin (some e) σ1 0 g1 Fr.rf ?_ rfl
    rw [c_M_pointHere_1, c1, cI_s, if_neg g1'.ne, v_M_pointHere_45_1, if_pos rfl]
  | none =>
    rw [ho] at g1 e1 fin
    have g1' : PG σ1 t (ent t p) := g1
    have hx : x < 31 := by rw [e1 rfl]; exact nE_v ho
    have hin := tk_in g1'
    cases hi : Nat.beq (knt t (ent t p)) 2 && Nat.blt (vlt t (ent t p)) 31
    · have hne : nE t 0 31 (ent t p) ≠ none := fun z => by
        rw [nE_b.mpr z] at hi
        cases hi
      obtain ⟨e, he⟩ : ∃ e, nE t 0 31 (ent t p) = some e := by
        cases hz : nE t 0 31 (ent t p) with
        | none => exact absurd hz hne
        | some e => exact ⟨e, rfl⟩
      refine fin none σ1 0 g1 Fr.rf ?_ (by rw [he]; rfl)
      rw [hi] at hin
      rw [c_M_pointHere_1, c1, cI_s, if_pos g1'.1]
      rw [g1'.2.1.2.1] at hin ⊢
      by_cases q2 : nI (knt t (ent t p)) = (2 : Int32)
      · rw [if_pos q2, s_in, cI_s] at hin
        rw [if_pos q2, s_in, cI_s, tv_ite]
        rw [tv_ite] at hin
        revert hin
        cases decide ((0 : Int64) ≤ (gI σ1 96 0 10).toInt64 ∧ (gI σ1 96 0 10).toInt64 ≤ 30)
        · intro _
          rw [cond_false, v_M_pointHere_45_1, if_pos rfl]
        · intro hin
          rw [cond_true] at hin
          have := (Prod.mk.inj (Option.some.inj hin)).1
          exact absurd this (by decide)
      · rw [if_neg q2, v_M_pointHere_45_1, if_pos rfl]
    · have hno := nE_b.mp hi
      have hy := nE_v hno
      rw [hi] at hin
      have h2 : knt t (ent t p) = 2 := (nE_n hno).1
      have hv : gI σ1 96 0 10 = nI (vlt t (ent t p)) := by
        obtain ⟨m, hm, q1, q2, _⟩ := g1'.2.1.2.2.2.1 h2
        rw [q1, q2 (by omega)]
      have c45 : Cc 229 0 [vR 96 0, vR 36201 0, vI (nI (28 + nM R))] σ = Vv 229 0 45 [some (vR 96 0), some (vR 36201 0), some (vI (nI (28 + nM R))), some (vI (nI x)), some (vI 1)] [] σ1 := by
        rw [c_M_pointHere_1, c1, cI_s, if_pos g1'.1]
        rw [g1'.2.1.2.1, h2, if_pos q_2, s_in, cI_s, tv_ite] at hin
        rw [g1'.2.1.2.1, h2, if_pos q_2, s_in, cI_s, tv_ite]
        revert hin
        cases decide ((0 : Int64) ≤ (gI σ1 96 0 10).toInt64 ∧ (gI σ1 96 0 10).toInt64 ≤ 30)
        · intro hin
          rw [cond_false] at hin
          have := (Prod.mk.inj (Option.some.inj hin)).1
          exact absurd this (by decide)
        · intro _
          rfl
      have r3 : Cc 226 0 [vR 96 0, vI 3] σ1 = some (some (vI (nI (nP R))), σ1) := s_hasRead H1 (k := 3) (by omega)
      have r4 : Cc 226 0 [vR 96 0, vI 4] σ1 = some (some (vI (nI (nM R))), σ1) := s_hasRead H1 (k := 4) (by omega)
      have r5 : Cc 226 0 [vR 96 0, vI 5] σ1 = some (some (vI (nI (nF R))), σ1) := s_hasRead H1 (k := 5) (by omega)
      have h10 : ¬ (1 : Int32) = 0 := by decide
      rw [v_M_pointHere_45_1, if_neg h10, r3, cI_s, hv, s_taken_0 H1 hW (by omega) (by omega), cI_s, tv_ite, r4, cI_s, hv, s_taken_1 H1 hW (by omega) (by omega), cI_s, tv_ite, r5, cI_s, hv, s_taken_2 H1 hW (by omega) (by omega), cI_s, tv_ite] at c45
      have et : tkB R (vlt t p) (vlt t (ent t p)) = (tkP (nP R) (px R) (py R) x (vlt t (ent t p)) || tkP (nM R) (mx R) (my R) x (vlt t (ent t p)) || tkP (nF R) (fx R) (fy R) x (vlt t (ent t p))) := by
        rw [e1 rfl]
        rfl
      obtain ⟨σ2, c2, f2, b2⟩ := g_fails B1 g1' (k := 2) (by omega) (by omega)
      have c2 : Cc 216 0 [vR 96 0, vI 2] σ1 = some (none, σ2) := c2
      rw [c2, cV_s] at c45
      cases t1 : tkP (nP R) (px R) (py R) x (vlt t (ent t p))
      · rw [t1, cond_false] at c45
        cases t2 : tkP (nM R) (mx R) (my R) x (vlt t (ent t p))
        · rw [t2, cond_false] at c45
          cases t3 : tkP (nF R) (fx R) (fy R) x (vlt t (ent t p))
          · rw [t3, cond_false] at c45
            exact fin none σ1 1 g1 Fr.rf c45 (by rw [hno, et, t1, t2, t3]; rfl)
          · rw [t3, cond_true] at c45
            exact fin (some (2, stt t (ent t p))) σ2 1 b2 f2 c45 (by rw [hno, et, t1, t2, t3]; rfl)
        · rw [t2, cond_true] at c45
          exact fin (some (2, stt t (ent t p))) σ2 1 b2 f2 c45 (by rw [hno, et, t1, t2]; rfl)
      · rw [t1, cond_true] at c45
        exact fin (some (2, stt t (ent t p))) σ2 1 b2 f2 c45 (by rw [hno, et, t1]; rfl)
theorem x_pt124_2 {σ : St} {t : TP} {o : OE} {q : Nat} (hB : TB σ t) (h : RG σ t o q) {k x : Nat} (hk0 : 48 ≤ 2 * k) (hk : 2 * k + 1 < 60) (l4 : Int32) : ∃ σ' y, Vv 229 0 124 [some (vR 96 0), some (vR 31097 0), some (vI (nI k)), some (vI (nI x)), some (vI l4)] [] σ = some (none, σ') ∧ Fr (apS 31097 48) σ σ' ∧ (∀ j, gI σ' 31097 0 j = if j = 2 * k + 1 then nI y else if j = 2 * k then nI x else gI σ 31097 0 j) ∧ RG σ' t (oo o (nE t 0 31 q)) (ent t q) ∧ (oo o (nE t 0 31 q) = none → y = vlt t q) := by
  have F1 : Fr (apS 31097 48) σ (sI σ 31097 0 (2 * k) (nI x)) := Fr.rf.sI (ap_a hk0 0)
  have B1 : TB (sI σ 31097 0 (2 * k) (nI x)) t := ⟨hB.1, hB.2.1, fun i hi => ⟨(gI_sIn (by decide)).trans (hB.2.2 i hi).1, (hB.2.2 i hi).2⟩⟩
  have G1 : RG (sI σ 31097 0 (2 * k) (nI x)) t o q := h.d (fun j => gI_sIn (by decide)) (fun _ => rfl)
  obtain ⟨σ2, y, c2, f2, g2, e2⟩ := x_number B1 G1 (lo := 0) (hx := 31) (by omega) (by omega)
  have c2 : Cc 220 0 [vR 96 0, vI 0, vI 30] (sI σ 31097 0 (2 * k) (nI x)) = some (some (vI (nI y)), σ2) := by
    rw [in30] at c2
    exact c2
  refine ⟨sI σ2 31097 0 (2 * k + 1) (nI y), y, ?_, (F1.tr (pm_ap f2)).sI (ap_a (by omega) 0), fun j => ?_, g2.d (fun j => gI_sIn (by decide)) (fun _ => rfl), e2⟩
  · have e1 : (2 : Int32) * nI k = nI (2 * k) := pk_mul 2 k
    rw [v_M_pointHere_124_2, e1, ix_nI (by omega) (by omega), c2, cI_s, nI_1, ix_nI (by omega) (by omega)]
  · rw [gI_sI]
    by_cases q1 : j = 2 * k + 1
    · rw [if_pos ⟨rfl, rfl, q1⟩, if_pos q1]
    · rw [if_neg (fun z => q1 z.2.2), if_neg q1, f2.i rfl, gI_sI]
      by_cases q2 : j = 2 * k
      · rw [if_pos ⟨rfl, rfl, q2⟩, if_pos q2]
      · rw [if_neg (fun z => q2 z.2.2), if_neg q2]
theorem x_point_2 {σ : St} {t : TP} {p : Nat} {R : RF} (hB : TB σ t) (hH : HM σ 4 R) (hW : WF R) (h : PG σ t p) (hn : nF R < 6) : ∃ σ' x y, Cc 229 0 [vR 96 0, vR 31097 0, vI (nI (24 + nF R))] σ = some (none, σ') ∧ Fr (apS 31097 48) σ σ' ∧ (∀ j, gI σ' 31097 0 j = if j = 2 * (24 + nF R) + 1 then nI y else if j = 2 * (24 + nF R) then nI x else gI σ 31097 0 j) ∧ RG σ' t (oo (oo (nE t 0 31 p) (nE t 0 31 (ent t p))) (dE (tkB R (vlt t p) (vlt t (ent t p))) t (ent t p))) (ent t (ent t p)) ∧ (oo (oo (nE t 0 31 p) (nE t 0 31 (ent t p))) (dE (tkB R (vlt t p) (vlt t (ent t p))) t (ent t p)) = none → x = vlt t p ∧ y = vlt t (ent t p)) := by
  have hb := hW.1
  unfold WB at hb
  obtain ⟨σ1, x, c1, f1, g1, e1⟩ := x_number (o := none) hB h (lo := 0) (hx := 31) (by omega) (by omega)
  have c1 : Cc 220 0 [vR 96 0, vI 0, vI 30] σ = some (some (vI (nI x)), σ1) := by
    rw [in30] at c1
    exact c1
  have g1 : RG σ1 t (nE t 0 31 p) (ent t p) := g1
  have e1 : nE t 0 31 p = none → x = vlt t p := e1
  have B1 := hB.pm f1
  have H1 := HM_pm hH f1
  have fin : ∀ (o' : OE) (σ2 : St) (l4 : Int32), RG σ2 t o' (ent t p) → Fr pmS σ1 σ2 → Cc 229 0 [vR 96 0, vR 31097 0, vI (nI (24 + nF R))] σ = Vv 229 0 124 [some (vR 96 0), some (vR 31097 0), some (vI (nI (24 + nF R))), some (vI (nI x)), some (vI l4)] [] σ2 → oo o' (nE t 0 31 (ent t p)) = oo (oo (nE t 0 31 p) (nE t 0 31 (ent t p))) (dE (tkB R (vlt t p) (vlt t (ent t p))) t (ent t p)) → ∃ σ' x y, Cc 229 0 [vR 96 0, vR 31097 0, vI (nI (24 + nF R))] σ = some (none, σ') ∧ Fr (apS 31097 48) σ σ' ∧ (∀ j, gI σ' 31097 0 j = if j = 2 * (24 + nF R) + 1 then nI y else if j = 2 * (24 + nF R) then nI x else gI σ 31097 0 j) ∧ RG σ' t (oo (oo (nE t 0 31 p) (nE t 0 31 (ent t p))) (dE (tkB R (vlt t p) (vlt t (ent t p))) t (ent t p))) (ent t (ent t p)) ∧ (oo (oo (nE t 0 31 p) (nE t 0 31 (ent t p))) (dE (tkB R (vlt t p) (vlt t (ent t p))) t (ent t p)) = none → x = vlt t p ∧ y = vlt t (ent t p)) := by
    intro o' σ2 l4 g2 f2 c2 eo
    obtain ⟨σ3, y, c3, f3, d3, g3, e3⟩ := x_pt124_2 (B1.pm f2) g2 (k := 24 + nF R) (x := x) (by omega) (by omega) l4
    rw [eo] at g3 e3
    exact ⟨σ3, x, y, c2.trans c3, ((pm_ap f1).tr (pm_ap f2)).tr f3, fun j => by rw [d3 j, f2.i rfl, f1.i rfl], g3, fun z => ⟨e1 (oo_n (oo_n z).1).1, e3 z⟩⟩
  cases ho : nE t 0 31 p with
  | some e =>
    rw [ho] at g1 e1 fin
    have g1' : PBd σ1 e := g1
    refine fin (some e) σ1 0 g1 Fr.rf ?_ rfl
    rw [c_M_pointHere_2, c1, cI_s, if_neg g1'.ne, v_M_pointHere_45_2, if_pos rfl]
  | none =>
    rw [ho] at g1 e1 fin
    have g1' : PG σ1 t (ent t p) := g1
    have hx : x < 31 := by rw [e1 rfl]; exact nE_v ho
    have hin := tk_in g1'
    cases hi : Nat.beq (knt t (ent t p)) 2 && Nat.blt (vlt t (ent t p)) 31
    · have hne : nE t 0 31 (ent t p) ≠ none := fun z => by
        rw [nE_b.mpr z] at hi
        cases hi
      obtain ⟨e, he⟩ : ∃ e, nE t 0 31 (ent t p) = some e := by
        cases hz : nE t 0 31 (ent t p) with
        | none => exact absurd hz hne
        | some e => exact ⟨e, rfl⟩
      refine fin none σ1 0 g1 Fr.rf ?_ (by rw [he]; rfl)
      rw [hi] at hin
      rw [c_M_pointHere_2, c1, cI_s, if_pos g1'.1]
      rw [g1'.2.1.2.1] at hin ⊢
      by_cases q2 : nI (knt t (ent t p)) = (2 : Int32)
      · rw [if_pos q2, s_in, cI_s] at hin
        rw [if_pos q2, s_in, cI_s, tv_ite]
        rw [tv_ite] at hin
        revert hin
        cases decide ((0 : Int64) ≤ (gI σ1 96 0 10).toInt64 ∧ (gI σ1 96 0 10).toInt64 ≤ 30)
        · intro _
          rw [cond_false, v_M_pointHere_45_2, if_pos rfl]
        · intro hin
          rw [cond_true] at hin
          have := (Prod.mk.inj (Option.some.inj hin)).1
          exact absurd this (by decide)
      · rw [if_neg q2, v_M_pointHere_45_2, if_pos rfl]
    · have hno := nE_b.mp hi
      have hy := nE_v hno
      rw [hi] at hin
      have h2 : knt t (ent t p) = 2 := (nE_n hno).1
      have hv : gI σ1 96 0 10 = nI (vlt t (ent t p)) := by
        obtain ⟨m, hm, q1, q2, _⟩ := g1'.2.1.2.2.2.1 h2
        rw [q1, q2 (by omega)]
      have c45 : Cc 229 0 [vR 96 0, vR 31097 0, vI (nI (24 + nF R))] σ = Vv 229 0 45 [some (vR 96 0), some (vR 31097 0), some (vI (nI (24 + nF R))), some (vI (nI x)), some (vI 1)] [] σ1 := by
        rw [c_M_pointHere_2, c1, cI_s, if_pos g1'.1]
        rw [g1'.2.1.2.1, h2, if_pos q_2, s_in, cI_s, tv_ite] at hin
        rw [g1'.2.1.2.1, h2, if_pos q_2, s_in, cI_s, tv_ite]
        revert hin
        cases decide ((0 : Int64) ≤ (gI σ1 96 0 10).toInt64 ∧ (gI σ1 96 0 10).toInt64 ≤ 30)
        · intro hin
          rw [cond_false] at hin
          have := (Prod.mk.inj (Option.some.inj hin)).1
          exact absurd this (by decide)
        · intro _
          rfl
      have r3 : Cc 226 0 [vR 96 0, vI 3] σ1 = some (some (vI (nI (nP R))), σ1) := s_hasRead H1 (k := 3) (by omega)
      have r4 : Cc 226 0 [vR 96 0, vI 4] σ1 = some (some (vI (nI (nM R))), σ1) := s_hasRead H1 (k := 4) (by omega)
      have r5 : Cc 226 0 [vR 96 0, vI 5] σ1 = some (some (vI (nI (nF R))), σ1) := s_hasRead H1 (k := 5) (by omega)
      have h10 : ¬ (1 : Int32) = 0 := by decide
      rw [v_M_pointHere_45_2, if_neg h10, r3, cI_s, hv, s_taken_0 H1 hW (by omega) (by omega), cI_s, tv_ite, r4, cI_s, hv, s_taken_1 H1 hW (by omega) (by omega), cI_s, tv_ite, r5, cI_s, hv, s_taken_2 H1 hW (by omega) (by omega), cI_s, tv_ite] at c45
      have et : tkB R (vlt t p) (vlt t (ent t p)) = (tkP (nP R) (px R) (py R) x (vlt t (ent t p)) || tkP (nM R) (mx R) (my R) x (vlt t (ent t p)) || tkP (nF R) (fx R) (fy R) x (vlt t (ent t p))) := by
        rw [e1 rfl]
        rfl
      obtain ⟨σ2, c2, f2, b2⟩ := g_fails B1 g1' (k := 2) (by omega) (by omega)
      have c2 : Cc 216 0 [vR 96 0, vI 2] σ1 = some (none, σ2) := c2
      rw [c2, cV_s] at c45
      cases t1 : tkP (nP R) (px R) (py R) x (vlt t (ent t p))
      · rw [t1, cond_false] at c45
        cases t2 : tkP (nM R) (mx R) (my R) x (vlt t (ent t p))
        · rw [t2, cond_false] at c45
          cases t3 : tkP (nF R) (fx R) (fy R) x (vlt t (ent t p))
          · rw [t3, cond_false] at c45
            exact fin none σ1 1 g1 Fr.rf c45 (by rw [hno, et, t1, t2, t3]; rfl)
          · rw [t3, cond_true] at c45
            exact fin (some (2, stt t (ent t p))) σ2 1 b2 f2 c45 (by rw [hno, et, t1, t2, t3]; rfl)
        · rw [t2, cond_true] at c45
          exact fin (some (2, stt t (ent t p))) σ2 1 b2 f2 c45 (by rw [hno, et, t1, t2]; rfl)
      · rw [t1, cond_true] at c45
        exact fin (some (2, stt t (ent t p))) σ2 1 b2 f2 c45 (by rw [hno, et, t1]; rfl)
