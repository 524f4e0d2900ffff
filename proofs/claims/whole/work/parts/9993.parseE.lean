/-! THE REFERENCE: a number, a token -/
/-- the reference's value of k digits -/
def rv (t : TP) (s : Nat) : Nat → Nat
  | 0 => 0
  | k + 1 => if rv t s k ≤ 100000 then 10 * rv t s k + (ltr t (s + k) - 48) else 1000000
theorem rv_le {t : TP} {s : Nat} : ∀ {k : Nat}, (∀ i, i < k → ltr t (s + i) ≤ 57) → rv t s k ≤ 1000009
  | 0, _ => Nat.zero_le _
  | k + 1, h => by
    show (if rv t s k ≤ 100000 then 10 * rv t s k + (ltr t (s + k) - 48) else 1000000) ≤ 1000009
    have := h k (by omega)
    split <;> omega
theorem rv_dvl {t : TP} {s : Nat} : ∀ (k : Nat), (dvl t s k ≤ 100000 → rv t s k = dvl t s k) ∧ (100000 < dvl t s k → 100000 < rv t s k)
  | 0 => ⟨fun _ => rfl, fun h => h⟩
  | k + 1 => by
    have ih := rv_dvl (t := t) (s := s) k
    have e1 : rv t s (k + 1) = if rv t s k ≤ 100000 then 10 * rv t s k + (ltr t (s + k) - 48) else 1000000 := rfl
    have e2 : dvl t s (k + 1) = 10 * dvl t s k + (ltr t (s + k) - 48) := rfl
    rw [e1, e2]
    by_cases h : dvl t s k ≤ 100000
    · have h1 := ih.1 h
      rw [if_pos (by omega), h1]
      exact ⟨fun _ => rfl, fun z => z⟩
    · have h1 := ih.2 (by omega)
      rw [if_neg (by omega)]
      exact ⟨fun z => by omega, fun z => by omega⟩
theorem RV_rv {t : TP} {s k : Nat} (h : ∀ i, i < k → ltr t (s + i) ≤ 57) : RV (nI (rv t s k)) (dvl t s k) := by
  have h1 := rv_le h
  have h2 := rv_dvl (t := t) (s := s) k
  refine ⟨rv t s k, by omega, rfl, fun z => h2.1 (by omega), fun z => ?_⟩
  by_cases hq : dvl t s k ≤ 100000
  · have := h2.1 hq
    omega
  · have := h2.2 (by omega)
    omega
theorem s_nx208 {t : TP} {p : Nat} (hp : p ≤ t.2.1) (hk2 : knt t p = 2) : ∀ (k j : Nat) (σ : St), stt t p + j + k = ent t p → TB σ t → gI σ 96 0 7 = nI (stt t p + j) → gI σ 96 0 10 = nI (rv t (stt t p) j) → ∃ σ', Vv 214 0 208 [some (vR 96 0), none] [] σ = some (none, σ') ∧ Fr nxS σ σ' ∧ gI σ' 96 0 7 = nI (ent t p) ∧ gI σ' 96 0 10 = nI (rv t (stt t p) (ent t p - stt t p)) ∧ gI σ' 96 0 8 = gI σ 96 0 8 ∧ gI σ' 96 0 9 = gI σ 96 0 9
  | 0, j, σ, hj, hB, h7, h10 => by
    have hl := ent_le hp
    have he := ent_end hp (Or.inr hk2)
    have hs := stt_le hp
    have e48 : (48 : Int32).toInt = 48 := rfl
    have e57 : (57 : Int32).toInt = 57 := rfl
    rw [hk2] at he
    refine ⟨σ, ?_, Fr.rf, by rw [h7, show stt t p + j = ent t p by omega], by rw [h10, show ent t p - stt t p = j by omega], rfl, rfl⟩
    rw [v_M_next_208, h7, s_isByte hB (by omega), cI_s, tv_ite, decide_eq_false (fun z => ?_)]
    · rfl
    · rw [show stt t p + j = ent t p by omega] at z
      unfold kd at he
      rw [if_pos z.1] at he
      have := bk_cs (t.1 (ent t p))
      omega
  | k + 1, j, σ, hj, hB, h7, h10 => by
    have hl := ent_le hp
    have hs := stt_le hp
    have hbd := hB.2.1
    have ha := ent_all (Or.inr hk2) (j := stt t p + j) (by omega) (by omega)
    rw [hk2] at ha
    obtain ⟨l1, l2, l3⟩ := ltr_2 ha
    have hrv : rv t (stt t p) j ≤ 1000009 := rv_le (fun i hi => by
      have ha := ent_all (Or.inr hk2) (j := stt t p + i) (by omega) (by omega)
      rw [hk2] at ha
      exact (ltr_2 ha).2.2)
    have e48 : (48 : Int32).toInt = 48 := rfl
    have e57 : (57 : Int32).toInt = 57 := rfl
    have ei : (t.1 (stt t p + j)).toInt = ltr t (stt t p + j) := by rw [l1, nI_toInt (by omega)]
    have hd : decide (stt t p + j < t.2.1 ∧ (48 : Int32).toInt ≤ (t.1 (stt t p + j)).toInt ∧ (t.1 (stt t p + j)).toInt ≤ (57 : Int32).toInt) = true := decide_eq_true ⟨by omega, by omega, by omega⟩
    have er : rv t (stt t p) (j + 1) = if rv t (stt t p) j ≤ 100000 then 10 * rv t (stt t p) j + (ltr t (stt t p + j) - 48) else 1000000 := rfl
    have hF : Fr nxS σ (sI (sI σ 96 0 10 (nI (rv t (stt t p) (j + 1)))) 96 0 7 (nI (stt t p + (j + 1)))) := (Fr.rf.sI rfl).sI rfl
    obtain ⟨σ', c1, f1, g1, g2, g3, g4⟩ := s_nx208 hp hk2 k (j + 1) (sI (sI σ 96 0 10 (nI (rv t (stt t p) (j + 1)))) 96 0 7 (nI (stt t p + (j + 1)))) (by omega) (hB.nx hF) (gI_sIs _ _ _ _ _) ((gI_sIj (by decide)).trans (gI_sIs _ _ _ _ _))
    refine ⟨σ', ?_, hF.tr f1, g1, g2, g3.trans ((gI_sIj (by decide)).trans (gI_sIj (by decide))), g4.trans ((gI_sIj (by decide)).trans (gI_sIj (by decide)))⟩
    rw [← c1, v_M_next_208, h7, s_isByte hB (by omega), cI_s, tv_ite, hd, cond_true, h7, h10, ix_nI (show stt t p + j < 700 by omega) (by omega), (hB.2.2 _ (show stt t p + j < t.2.1 by omega)).1]
    by_cases hq : rv t (stt t p) j ≤ 100000
    · have e1 : nI (rv t (stt t p) j) ≤ (100000 : Int32) := by
        rw [Int32.le_iff_toInt_le, nI_toInt (by omega), show (100000 : Int32).toInt = 100000 from rfl]
        omega
      have e2 : (10 : Int32) * nI (rv t (stt t p) j) + t.1 (stt t p + j) - (48 : Int32) = nI (rv t (stt t p) (j + 1)) := by
        rw [er, if_pos hq, l1, show (10 : Int32) = nI 10 from rfl, show (48 : Int32) = nI 48 from rfl, pk_mul, nI_add, pk_sub (by omega)]
        congr 1
        omega
      rw [if_pos e1, e2, gI_sIj (by decide), h7, nI_1]
      rfl
    · have e1 : ¬ nI (rv t (stt t p) j) ≤ (100000 : Int32) := by
        rw [Int32.le_iff_toInt_le, nI_toInt (by omega), show (100000 : Int32).toInt = 100000 from rfl]
        omega
      have e2 : (1000000 : Int32) = nI (rv t (stt t p) (j + 1)) := by
        rw [er, if_neg hq]
        rfl
      rw [if_neg e1, gI_sIj (by decide), h7, nI_1, e2]
      rfl
theorem s_next {σ : St} {t : TP} {p : Nat} (hB : TB σ t) (hp : p ≤ t.2.1) (h7 : gI σ 96 0 7 = nI p) : ∃ σ', Cc 214 0 [vR 96 0] σ = some (none, σ') ∧ Fr nxS σ σ' ∧ NM σ' t p := by
  have hs := stt_le hp
  have hl := ent_le hp
  have h5 := knt_5 hp
  have h0 := knt_0 hp
  have hbd := hB.2.1
  obtain ⟨σ1, c1, f1, g1⟩ := s_nx0 hp (stt t p - p) p σ (by omega) (Nat.le_refl _) hB h7
  have B1 := hB.nx f1
  have cc : Cc 214 0 [vR 96 0] σ = Vv 214 0 0 [some (vR 96 0), none] [] σ1 := by
    rw [← c1, c_M_next, v_M_next_0]
  have F2 : Fr nxS σ1 (sL (sI (sI σ1 96 0 9 (nI (stt t p))) 96 0 10 0) 96 0 11 0) := ((Fr.rf.sI rfl).sI rfl).sL rfl
  have e7 : gI (sL (sI (sI σ1 96 0 9 (nI (stt t p))) 96 0 10 0) 96 0 11 0) 96 0 7 = nI (stt t p) := g1
  have e6 : gI (sL (sI (sI σ1 96 0 9 (nI (stt t p))) 96 0 10 0) 96 0 11 0) 96 0 6 = nI t.2.1 := B1.1
  have e9 : gI (sL (sI (sI σ1 96 0 9 (nI (stt t p))) 96 0 10 0) 96 0 11 0) 96 0 9 = nI (stt t p) := by
    show gI (sI (sI σ1 96 0 9 (nI (stt t p))) 96 0 10 0) 96 0 9 = _
    rw [gI_sIj (by decide), gI_sIs]
  have e10 : gI (sL (sI (sI σ1 96 0 9 (nI (stt t p))) 96 0 10 0) 96 0 11 0) 96 0 10 = 0 := by
    show gI (sI (sI σ1 96 0 9 (nI (stt t p))) 96 0 10 0) 96 0 10 = _
    rw [gI_sIs]
  have e11 : gL (sL (sI (sI σ1 96 0 9 (nI (stt t p))) 96 0 10 0) 96 0 11 0) 96 0 11 = 0 := (gL_sL _ _ _ _ _ _ _ _).trans (if_pos ⟨rfl, rfl, rfl⟩)
  have B2 := B1.nx F2
  have i32 : (32 : Int32).toInt = 32 := rfl
  have i10 : (10 : Int32).toInt = 10 := rfl
  have i97 : (97 : Int32).toInt = 97 := rfl
  have i122 : (122 : Int32).toInt = 122 := rfl
  have i48 : (48 : Int32).toInt = 48 := rfl
  have i57 : (57 : Int32).toInt = 57 := rfl
  have i59 : (59 : Int32).toInt = 59 := rfl
  have hkd : stt t p < t.2.1 → knt t p = bk (t.1 (stt t p)) := fun z => by
    unfold knt kd
    rw [if_pos z]
  have hcs := bk_cs (t.1 (stt t p))
  have hb1 : decide (stt t p < t.2.1 ∧ (32 : Int32).toInt ≤ (t.1 (stt t p)).toInt ∧ (t.1 (stt t p)).toInt ≤ (32 : Int32).toInt) = false := decide_eq_false (fun z => by have := hkd z.1; omega)
  have hb2 : decide (stt t p < t.2.1 ∧ (10 : Int32).toInt ≤ (t.1 (stt t p)).toInt ∧ (t.1 (stt t p)).toInt ≤ (10 : Int32).toInt) = false := decide_eq_false (fun z => by have := hkd z.1; omega)
  rw [cc, v_M_next_0, g1, s_isByte B1 hs.2, cI_s, tv_ite, hb1, cond_false, g1, s_isByte B1 hs.2, cI_s, tv_ite, hb2, cond_false, g1, e7, e6]
  generalize sL (sI (sI σ1 96 0 9 (nI (stt t p))) 96 0 10 0) 96 0 11 0 = σ2 at F2 e7 e6 e9 e10 e11 B2
  have F12 := f1.tr F2
  by_cases q0 : stt t p = t.2.1
  · have k0 := h0.mpr q0
    have ee : ent t p = t.2.1 := by
      unfold ent
      rw [k0]
      show (if stt t p + 1 ≤ t.2.1 then stt t p + 1 else t.2.1) = t.2.1
      rw [if_neg (by omega)]
    rw [if_pos (by rw [q0])]
    refine ⟨_, rfl, F12.sI rfl, (gI_sIj (by decide)).trans (by rw [e7, ee, q0]), by rw [gI_sIs, k0]; rfl, (gI_sIj (by decide)).trans e9, fun z => by omega, fun z => by omega⟩
  · have hlt : stt t p < t.2.1 := by omega
    have hk := hkd hlt
    rw [if_neg (fun z => q0 ((nI_eq (by omega) (by omega)).mp z)), s_isByte B2 hs.2, cI_s, tv_ite]
    by_cases q1 : knt t p = 1
    · rw [decide_eq_true (show stt t p < t.2.1 ∧ (97 : Int32).toInt ≤ (t.1 (stt t p)).toInt ∧ (t.1 (stt t p)).toInt ≤ (122 : Int32).toInt from ⟨hlt, by omega, by omega⟩), cond_true]
      have F3 : Fr nxS σ2 (sI σ2 96 0 8 1) := Fr.rf.sI rfl
      obtain ⟨σ3, c3, f3, x7, x11, x8, x9⟩ := s_nx102 hp q1 (ent t p - stt t p) 0 (sI σ2 96 0 8 1) (by omega) (B2.nx F3) ((gI_sIj (by decide)).trans e7) (by
        show gL σ2 96 0 11 = _
        rw [e11]
        rfl)
      refine ⟨σ3, c3, (F12.tr F3).tr f3, x7, by rw [x8, gI_sIs, q1]; rfl, by rw [x9, gI_sIj (by decide), e9], fun z => by omega, fun _ => ?_⟩
      rw [x11]
      rfl
    · rw [decide_eq_false (show ¬ (stt t p < t.2.1 ∧ (97 : Int32).toInt ≤ (t.1 (stt t p)).toInt ∧ (t.1 (stt t p)).toInt ≤ (122 : Int32).toInt) by omega), cond_false, e7, s_isByte B2 hs.2, cI_s, tv_ite]
      by_cases q2 : knt t p = 2
      · rw [decide_eq_true (show stt t p < t.2.1 ∧ (48 : Int32).toInt ≤ (t.1 (stt t p)).toInt ∧ (t.1 (stt t p)).toInt ≤ (57 : Int32).toInt from ⟨hlt, by omega, by omega⟩), cond_true]
        have F3 : Fr nxS σ2 (sI σ2 96 0 8 2) := Fr.rf.sI rfl
        obtain ⟨σ3, c3, f3, x7, x10, x8, x9⟩ := s_nx208 hp q2 (ent t p - stt t p) 0 (sI σ2 96 0 8 2) (by omega) (B2.nx F3) ((gI_sIj (by decide)).trans e7) (by
          rw [gI_sIj (by decide), e10]
          rfl)
        refine ⟨σ3, c3, (F12.tr F3).tr f3, x7, by rw [x8, gI_sIs, q2]; rfl, by rw [x9, gI_sIj (by decide), e9], fun _ => ?_, fun z => by omega⟩
        rw [x10]
        exact RV_rv (fun i hi => by
          have ha := ent_all (Or.inr q2) (j := stt t p + i) (by omega) (by omega)
          rw [q2] at ha
          exact (ltr_2 ha).2.2)
      · have ee : ent t p = stt t p + 1 := by
          unfold ent
          have : (Nat.beq (knt t p) 1 || Nat.beq (knt t p) 2) = false := by
            cases hz : Nat.beq (knt t p) 1 || Nat.beq (knt t p) 2
            · rfl
            · rw [Bool.or_eq_true] at hz
              rcases hz with hz | hz
              · exact absurd (Nat.eq_of_beq_eq_true hz) q1
              · exact absurd (Nat.eq_of_beq_eq_true hz) q2
          rw [this, cond_false, if_pos (by omega)]
        rw [decide_eq_false (show ¬ (stt t p < t.2.1 ∧ (48 : Int32).toInt ≤ (t.1 (stt t p)).toInt ∧ (t.1 (stt t p)).toInt ≤ (57 : Int32).toInt) by omega), cond_false, e7, ix_nI (show stt t p < 700 by omega) (by omega), (B2.2.2 _ hlt).1]
        by_cases q3 : knt t p = 3
        · have i3 : t.1 (stt t p) = 59 := Int32.toInt_inj.mp (by omega)
          rw [if_pos i3, gI_sIj (by decide), e7, nI_1]
          refine ⟨_, rfl, (F12.sI rfl).sI rfl, by rw [gI_sIs, ee], by rw [gI_sIj (by decide), gI_sIs, q3]; rfl, by rw [gI_sIj (by decide), gI_sIj (by decide), e9], fun z => by omega, fun z => by omega⟩
        · have i3 : ¬ t.1 (stt t p) = 59 := fun z => by
            have z2 : (t.1 (stt t p)).toInt = 59 := by rw [z]; rfl
            omega
          have k4 : knt t p = 4 := by omega
          rw [if_neg i3, gI_sIj (by decide), e7, nI_1]
          refine ⟨_, rfl, (F12.sI rfl).sI rfl, by rw [gI_sIs, ee], by rw [gI_sIj (by decide), gI_sIs, k4]; rfl, by rw [gI_sIj (by decide), gI_sIj (by decide), e9], fun z => by omega, fun z => by omega⟩
