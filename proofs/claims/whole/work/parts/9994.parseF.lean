/-! THE REFERENCE: what a line is made of -/
abbrev OE : Type := Option (Nat × Nat)
def oo (o o' : OE) : OE := match o with
  | none => o'
  | some e => some e
theorem th_oo (a b : OE) (r : PX) : th (oo a b) r = th a (th b r) := by cases a <;> rfl
theorem oo_n {a b : OE} (h : oo a b = none) : a = none ∧ b = none := by
  cases a with
  | none => exact ⟨rfl, h⟩
  | some e => cases h
def pmS (t _i j : Nat) : Bool := Nat.beq t 96 && (Nat.ble 7 j && Nat.ble j 13)
theorem nx_pm {σ σ' : St} (h : Fr nxS σ σ') : Fr pmS σ σ' := h.up (fun t i j hq => by
  cases hz : nxS t i j
  · rfl
  · unfold nxS at hz
    unfold pmS at hq
    rw [Bool.and_eq_true, Bool.and_eq_true] at hz
    have := Nat.le_of_ble_eq_true hz.2.2
    rw [hz.1, hz.2.1, Nat.ble_eq_true_of_le (show j ≤ 13 by omega)] at hq
    cases hq)
theorem TB.pm {σ σ' : St} {t : TP} (h : TB σ t) (hf : Fr pmS σ σ') : TB σ' t := ⟨(hf.i rfl).trans h.1, h.2.1, fun i hi => ⟨(hf.i rfl).trans (h.2.2 i hi).1, (h.2.2 i hi).2⟩⟩
theorem HM_pm {σ σ' : St} {k : Nat} {R : RF} (h : HM σ k R) (hf : Fr pmS σ σ') : HM σ' k R := h.fr hf (fun _ => ⟨rfl, rfl, rfl, rfl, rfl, rfl, rfl, rfl, rfl⟩)
def PG (σ : St) (t : TP) (p : Nat) : Prop := gI σ 96 0 12 = 0 ∧ NM σ t p ∧ p ≤ t.2.1
def PBd (σ : St) (e : Nat × Nat) : Prop := gI σ 96 0 12 = nI e.1 ∧ 1 ≤ e.1 ∧ e.1 ≤ 3 ∧ gI σ 96 0 13 = nI e.2 ∧ e.2 ≤ 700
def RG (σ : St) (t : TP) (o : OE) (p : Nat) : Prop := match o with
  | none => PG σ t p
  | some e => PBd σ e
/-- nothing of the machine's own cells has changed -/
theorem RG.d {σ σ' : St} {t : TP} {o : OE} {p : Nat} (h : RG σ t o p) (h1 : ∀ j, gI σ' 96 0 j = gI σ 96 0 j) (h2 : ∀ j, gL σ' 96 0 j = gL σ 96 0 j) : RG σ' t o p := by
  cases o with
  | none =>
    obtain ⟨g1, ⟨g2, g3, g4, g5, g6⟩, g7⟩ := h
    exact ⟨(h1 _).trans g1, ⟨(h1 _).trans g2, (h1 _).trans g3, (h1 _).trans g4, fun z => by rw [h1]; exact g5 z, fun z => by rw [h2]; exact g6 z⟩, g7⟩
  | some e =>
    obtain ⟨g1, g2, g3, g4, g5⟩ := h
    exact ⟨(h1 _).trans g1, g2, g3, (h1 _).trans g4, g5⟩
theorem PBd.ne {σ : St} {e : Nat × Nat} (h : PBd σ e) : ¬ gI σ 96 0 12 = 0 := by
  rw [h.1]
  exact nI_ne0 h.2.1 (by have := h.2.2.1; omega)
theorem g_next {σ : St} {t : TP} {p : Nat} (hB : TB σ t) (h : PG σ t p) : ∃ σ', Cc 214 0 [vR 96 0] σ = some (none, σ') ∧ Fr pmS σ σ' ∧ PG σ' t (ent t p) := by
  have hl := ent_le h.2.2
  obtain ⟨σ1, c1, f1, n1⟩ := s_next hB hl.1 h.2.1.1
  exact ⟨σ1, c1, nx_pm f1, (f1.i rfl).trans h.1, n1, hl.1⟩
theorem g_fails {σ : St} {t : TP} {p : Nat} (hB : TB σ t) (h : PG σ t p) {k : Nat} (h1 : 1 ≤ k) (h3 : k ≤ 3) : ∃ σ', Cc 216 0 [vR 96 0, vI (nI k)] σ = some (none, σ') ∧ Fr pmS σ σ' ∧ PBd σ' (k, stt t p) := by
  have hs := stt_le h.2.2
  have hb := hB.2.1
  refine ⟨sI (sI σ 96 0 12 (nI k)) 96 0 13 (nI (stt t p)), ?_, (Fr.rf.sI rfl).sI rfl, (gI_sIj (by decide)).trans (gI_sIs _ _ _ _ _), h1, h3, gI_sIs _ _ _ _ _, ?_⟩
  · rw [c_M_fails, if_pos h.1, gI_sIj (by decide), h.2.1.2.2.1]
  · show stt t p ≤ 700
    omega
theorem b_fails {σ : St} {e : Nat × Nat} (h : PBd σ e) (k : Int32) : Cc 216 0 [vR 96 0, vI k] σ = some (none, σ) := by
  rw [c_M_fails, if_neg h.ne]
theorem g_is {σ : St} {t : TP} {p : Nat} (h : PG σ t p) {k : Nat} (hk : k < 12) {x : Int64} (hx : x = lN (wcd k)) : Cc 217 0 [vR 96 0, vL x] σ = some (some (vI (tv (isW t p k))), σ) := by
  obtain ⟨h12, ⟨h7, h8, h9, h10, h11⟩, hp⟩ := h
  have hkn : knt t p ≤ 5 := by
    unfold knt kd
    split
    · exact (bk_le _).2
    · omega
  rw [c_M_is, if_pos h12, h8]
  by_cases q1 : knt t p = 1
  · have hw := wd_l hk
    have hlen := (wd_ok k hk).1
    have hl : ∀ i, i < ent t p - stt t p → 97 ≤ ltr t (stt t p + i) ∧ ltr t (stt t p + i) ≤ 122 := fun i hi => by
      have e := ent_all (t := t) (p := p) (Or.inl q1) (j := stt t p + i) (by omega) (by omega)
      rw [q1] at e
      exact (ltr_1 e).2
    have hwc : wcd k < 27 ^ 6 := Nat.lt_of_lt_of_le (cwd_lt (fun i hi => (hw i hi).2)) (Nat.pow_le_pow_right (by omega) hlen)
    rw [q1, if_pos q_1, h11 q1, hx, retZ_1, retZ_0, isW_cw q1 hw]
    simp only [lg_eq0]
    by_cases q2 : ent t p - stt t p ≤ 12
    · have hcw : cwd (fun i => ltr t (stt t p + i)) (ent t p - stt t p) < 27 ^ 12 := Nat.lt_of_lt_of_le (cwd_lt (fun i hi => (hl i hi).2)) (Nat.pow_le_pow_right (by omega) q2)
      rw [if_pos q2]
      by_cases q3 : cwd (fun i => ltr t (stt t p + i)) (ent t p - stt t p) = cwd (fun i => (wd k).getD i 0) (wd k).length
      · rw [if_pos (by rw [q3]; rfl), decide_eq_true q3]
      · have q4 : ¬ lN (cwd (fun i => ltr t (stt t p + i)) (ent t p - stt t p)) = lN (wcd k) := fun z => q3 ((lN_e63 (b := wcd k) (by omega) (by omega)).mp z)
        rw [if_neg q4, decide_eq_false q3]
    · rw [if_neg q2, if_neg (fun z => ?_), decide_eq_false (fun z => ?_)]
      · have := (cwd_inj hl hw z).1
        omega
      · have := congrArg Int64.toInt z
        rw [lN_i63 (by omega), show (-1 : Int64).toInt = -1 from rfl] at this
        omega
  · rw [if_neg (q_n1 (by omega) q1), retZ_0]
    unfold isW
    have : Nat.beq (knt t p) 1 = false := by
      cases hz : Nat.beq (knt t p) 1
      · rfl
      · exact absurd (Nat.eq_of_beq_eq_true hz) q1
    rw [this]
    rfl
theorem b_is {σ : St} {e : Nat × Nat} (h : PBd σ e) (x : Int64) : Cc 217 0 [vR 96 0, vL x] σ = some (some (vI (tv false)), σ) := by
  rw [c_M_is, if_neg h.ne]
  rfl
/-- a word is asked for -/
theorem x_asks {σ : St} {t : TP} {o : OE} {p : Nat} (hB : TB σ t) (h : RG σ t o p) {k : Nat} (hk : k < 12) {x : Int64} (hx : x = lN (wcd k)) : ∃ σ', Cc 219 0 [vR 96 0, vL x] σ = some (none, σ') ∧ Fr pmS σ σ' ∧ RG σ' t (oo o (wE t k p)) (ent t p) := by
  cases o with
  | none =>
    have h : PG σ t p := h
    show ∃ σ', Cc 219 0 [vR 96 0, vL x] σ = some (none, σ') ∧ Fr pmS σ σ' ∧ RG σ' t (wE t k p) (ent t p)
    unfold wE
    rw [c_M_asks, c_M_takes, g_is h hk hx, cI_s, tv_ite]
    cases hq : isW t p k
    · obtain ⟨σ1, c1, f1, b1⟩ := g_fails hB h (k := 1) (by omega) (by omega)
      have c1 : Cc 216 0 [vR 96 0, vI 1] σ = some (none, σ1) := c1
      rw [cond_false, retZ_0, cI_s, tv_ite, cond_false, c1, cV_s]
      exact ⟨σ1, rfl, f1, b1⟩
    · obtain ⟨σ1, c1, f1, g1⟩ := g_next hB h
      rw [cond_true, c1, cV_s, retZ_1, cI_s, tv_ite, cond_true]
      exact ⟨σ1, rfl, f1, g1⟩
  | some e =>
    have h : PBd σ e := h
    refine ⟨σ, ?_, Fr.rf, h⟩
    rw [c_M_asks, c_M_takes, b_is h, cI_s, tv_ite, cond_false, retZ_0, cI_s, tv_ite, cond_false, b_fails h, cV_s]
theorem RV_in {x : Int32} {v lo hx : Nat} (h : RV x v) (hlo : lo ≤ 100) (hhx : hx ≤ 100) : decide ((nI lo).toInt64 ≤ x.toInt64 ∧ x.toInt64 ≤ (nI hx - 1).toInt64) = (Nat.ble lo v && Nat.blt v hx) := by
  obtain ⟨m, hm, rfl, h1, h2⟩ := h
  have e2 : (nI hx - 1).toInt = (hx : Int) - 1 := pk_sub_toInt (b := 1) (by omega) (by omega)
  have e3 : (nI lo).toInt = lo := nI_toInt (by omega)
  have e4 : (nI m).toInt = m := nI_toInt (by omega)
  have e : (Nat.ble lo v && Nat.blt v hx) = decide (lo ≤ v ∧ v < hx) := by
    by_cases hq : lo ≤ v ∧ v < hx
    · rw [decide_eq_true hq, Nat.ble_eq_true_of_le hq.1, show Nat.blt v hx = true from Nat.ble_eq_true_of_le hq.2]
      rfl
    · rw [decide_eq_false hq]
      cases hz : Nat.ble lo v && Nat.blt v hx
      · rfl
      · rw [Bool.and_eq_true] at hz
        exact absurd ⟨Nat.le_of_ble_eq_true hz.1, Nat.le_of_ble_eq_true hz.2⟩ hq
  rw [e]
  apply decide_eq_decide.mpr
  rw [Int64.le_iff_toInt_le, Int64.le_iff_toInt_le, Int32.toInt_toInt64, Int32.toInt_toInt64, Int32.toInt_toInt64, e2, e3, e4]
  by_cases hv : v ≤ 1000
  · rw [h1 hv]
    omega
  · have := h2 (by omega)
    omega
/-- a number is asked for -/
theorem x_number {σ : St} {t : TP} {o : OE} {p : Nat} (hB : TB σ t) (h : RG σ t o p) {lo hx : Nat} (hlo : lo ≤ 100) (hhx : hx ≤ 100) : ∃ σ' v, Cc 220 0 [vR 96 0, vI (nI lo), vI (nI hx - 1)] σ = some (some (vI (nI v)), σ') ∧ Fr pmS σ σ' ∧ RG σ' t (oo o (nE t lo hx p)) (ent t p) ∧ (oo o (nE t lo hx p) = none → v = vlt t p) := by
  cases o with
  | none =>
    have h : PG σ t p := h
    show ∃ σ' v, Cc 220 0 [vR 96 0, vI (nI lo), vI (nI hx - 1)] σ = some (some (vI (nI v)), σ') ∧ Fr pmS σ σ' ∧ RG σ' t (nE t lo hx p) (ent t p) ∧ (nE t lo hx p = none → v = vlt t p)
    have hkn : knt t p ≤ 5 := by
      unfold knt kd
      split
      · exact (bk_le _).2
      · omega
    unfold nE
    rw [c_M_number, if_pos h.1, h.2.1.2.1]
    by_cases q2 : knt t p = 2
    · have hv := h.2.1.2.2.2.1 q2
      rw [q2, if_pos q_2, s_in, cI_s, tv_ite, RV_in hv hlo hhx]
      cases hq : Nat.ble lo (vlt t p) && Nat.blt (vlt t p) hx
      · obtain ⟨σ1, c1, f1, b1⟩ := g_fails hB h (k := 2) (by omega) (by omega)
        have c1 : Cc 216 0 [vR 96 0, vI 2] σ = some (none, σ1) := c1
        rw [cond_false, c1, cV_s]
        exact ⟨σ1, lo, rfl, f1, b1, fun z => by cases z⟩
      · obtain ⟨σ1, c1, f1, g1⟩ := g_next hB h
        rw [Bool.and_eq_true] at hq
        have hlt : vlt t p < hx := Nat.le_of_ble_eq_true hq.2
        obtain ⟨m, hm, e1, e2, _⟩ := hv
        rw [cond_true, c1, cV_s, e1, e2 (by omega)]
        exact ⟨σ1, vlt t p, rfl, f1, g1, fun _ => rfl⟩
    · obtain ⟨σ1, c1, f1, b1⟩ := g_fails hB h (k := 1) (by omega) (by omega)
      have c1 : Cc 216 0 [vR 96 0, vI 1] σ = some (none, σ1) := c1
      have : Nat.beq (knt t p) 2 = false := by
        cases hz : Nat.beq (knt t p) 2
        · rfl
        · exact absurd (Nat.eq_of_beq_eq_true hz) q2
      rw [if_neg (q_n2 (by omega) q2), c1, cV_s, this, cond_false]
      exact ⟨σ1, lo, rfl, f1, b1, fun z => by cases z⟩
  | some e =>
    have h : PBd σ e := h
    refine ⟨σ, lo, ?_, Fr.rf, h, fun z => by cases z⟩
    rw [c_M_number, if_neg h.ne]
theorem x_number2 {σ : St} {t : TP} {o : OE} {p : Nat} (hB : TB σ t) (h : RG σ t o p) {k : Nat} (hk : k < 12) {x : Int64} (hx : x = lN (wcd k)) {lo hi : Nat} (hlo : lo ≤ 100) (hhi : hi ≤ 100) : ∃ σ' v, Cc 221 0 [vR 96 0, vL x, vI (nI lo), vI (nI hi - 1)] σ = some (some (vI (nI v)), σ') ∧ Fr pmS σ σ' ∧ RG σ' t (oo (oo o (wE t k p)) (nE t lo hi (ent t p))) (ent t (ent t p)) ∧ (oo (oo o (wE t k p)) (nE t lo hi (ent t p)) = none → v = vlt t (ent t p)) := by
  obtain ⟨σ1, c1, f1, g1⟩ := x_asks hB h hk hx
  obtain ⟨σ2, v, c2, f2, g2, e2⟩ := x_number (hB.pm f1) g1 hlo hhi
  exact ⟨σ2, v, by rw [c_M_number2, c1, cV_s, c2, cI_s], f1.tr f2, g2, e2⟩
theorem s_hasRead {σ : St} {R : RF} (h : HM σ 4 R) {k : Nat} (hk : k < 9) : Cc 226 0 [vR 96 0, vI (nI k)] σ = some (some (vI (nI (R 0 k))), σ) := by
  rw [c_M_hasRead, show (36 : Int32) + nI k = nI (36 + k) from nI_add 36 k, ix_nI (by omega) (by omega), show 36 + k = k + 9 * 4 by omega, h.1 k hk]
theorem s_tells (σ : St) {k : Nat} (hk : k < 9) (x : Int32) : Cc 227 0 [vR 96 0, vI (nI k), vI x] σ = some (none, sI σ 23385 0 (36 + k) x) := by
  rw [c_M_tells, show (36 : Int32) + nI k = nI (36 + k) from nI_add 36 k, ix_nI (by omega) (by omega)]
