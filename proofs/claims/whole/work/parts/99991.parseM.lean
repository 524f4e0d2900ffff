/-! THE CLASS: tokens -/
def TD (σ : St) (t : TP) : Prop := gI σ 40 0 2 = nI t.2.1 ∧ t.2.1 ≤ 700 ∧ ∀ i, i < t.2.1 → gI σ 358555 0 i = t.1 i ∧ -128 ≤ (t.1 i).toInt ∧ (t.1 i).toInt ≤ 127
def rdS (t _i j : Nat) : Bool := Nat.beq t 40 && (Nat.ble 3 j && Nat.ble j 9)
theorem TD.rd {σ σ' : St} {t : TP} (h : TD σ t) (hf : Fr rdS σ σ') : TD σ' t := ⟨(hf.i rfl).trans h.1, h.2.1, fun i hi => ⟨(hf.i rfl).trans (h.2.2 i hi).1, (h.2.2 i hi).2⟩⟩
theorem k_kindB (b : Int32) (σ : St) : (if b = (32 : Int32) then some (some (vI 5), σ) else if b = (10 : Int32) then some (some (vI 5), σ) else if b < (97 : Int32) then if b < (48 : Int32) then if b = (59 : Int32) then some (some (vI 3), σ) else some (some (vI 4), σ) else if b ≤ (57 : Int32) then some (some (vI 2), σ) else if b = (59 : Int32) then some (some (vI 3), σ) else some (some (vI 4), σ) else if b ≤ (122 : Int32) then some (some (vI 1), σ) else if b < (48 : Int32) then if b = (59 : Int32) then some (some (vI 3), σ) else some (some (vI 4), σ) else if b ≤ (57 : Int32) then some (some (vI 2), σ) else if b = (59 : Int32) then some (some (vI 3), σ) else some (some (vI 4), σ)) = (some (some (vI (nI (bk b))), σ) : Option AR) := by
  have i32 : (32 : Int32).toInt = 32 := rfl
  have i10 : (10 : Int32).toInt = 10 := rfl
  have i97 : (97 : Int32).toInt = 97 := rfl
  have i122 : (122 : Int32).toInt = 122 := rfl
  have i48 : (48 : Int32).toInt = 48 := rfl
  have i57 : (57 : Int32).toInt = 57 := rfl
  have i59 : (59 : Int32).toInt = 59 := rfl
  simp only [eq_i, Int32.lt_iff_toInt_lt, Int32.le_iff_toInt_le, i32, i10, i97, i122, i48, i57, i59]
  rcases bk_cs b with ⟨e, h⟩ | ⟨e, h⟩ | ⟨e, h⟩ | ⟨e, h⟩ | ⟨e, h⟩
  · rw [e]
    rcases h with h | h
    · rw [if_pos h]; rfl
    · rw [if_neg (by omega), if_pos h]; rfl
  · rw [e, if_neg (by omega), if_neg (by omega), if_neg (by omega), if_pos (by omega)]; rfl
  · rw [e, if_neg (by omega), if_neg (by omega), if_pos (by omega), if_neg (by omega), if_pos (by omega)]; rfl
  · rw [e, if_neg (by omega), if_neg (by omega), if_pos (by omega), if_neg (by omega), if_neg (by omega), if_pos (by omega)]; rfl
  · rw [e, if_neg (by omega), if_neg (by omega)]
    by_cases q : b.toInt < 97
    · rw [if_pos q]
      by_cases q2 : b.toInt < 48
      · rw [if_pos q2, if_neg (by omega)]; rfl
      · rw [if_neg q2, if_neg (by omega), if_neg (by omega)]; rfl
    · rw [if_neg q, if_neg (by omega), if_neg (by omega), if_neg (by omega), if_neg (by omega)]; rfl
theorem k_kindAt {σ : St} {t : TP} (h : TD σ t) {i : Nat} (hi : i ≤ t.2.1) : Cc 69 0 [vR 40 0, vI (nI i)] σ = some (some (vI (nI (kd t i))), σ) := by
  obtain ⟨h1, h2, h3⟩ := h
  unfold kd
  rw [c_Reader_kindAt, if_neg (nI_pos (by omega)), h1]
  by_cases hq : i < t.2.1
  · rw [if_pos (nI_lt hq (by omega)), if_pos (show nI i < (700 : Int32) from nI_lt (b := 700) (by omega) (by omega)), ix_nI (by omega) (by omega), (h3 i hq).1, if_pos hq]
    exact k_kindB _ _
  · rw [if_neg (nI_nlt (by omega) (by omega)), if_neg hq]
    rfl
/-- the class's token from p on; no fault yet -/
def KD (σ : St) (t : TP) (p : Nat) : Prop := gI σ 40 0 3 = nI (knt t p) ∧ gI σ 40 0 4 = nI (stt t p) ∧ gI σ 40 0 5 = nI (ent t p) ∧ p ≤ t.2.1 ∧ gI σ 40 0 8 = 0 ∧ gI σ 40 0 9 = -1
def ntS (t _i j : Nat) : Bool := Nat.beq t 40 && (Nat.ble 3 j && Nat.ble j 5)
theorem nt_rd {σ σ' : St} (h : Fr ntS σ σ') : Fr rdS σ σ' := h.up (fun t i j hq => by
  cases hz : ntS t i j
  · rfl
  · unfold ntS at hz
    unfold rdS at hq
    rw [Bool.and_eq_true, Bool.and_eq_true] at hz
    have := Nat.le_of_ble_eq_true hz.2.2
    rw [hz.1, hz.2.1, Nat.ble_eq_true_of_le (show j ≤ 9 by omega)] at hq
    cases hq)
theorem k_nt13 {t : TP} {p : Nat} (hp : p ≤ t.2.1) : ∀ (k i : Nat) (σ : St), i + k = stt t p → p ≤ i → TD σ t → gI σ 40 0 4 = nI i → ∃ σ', Vv 68 0 13 [some (vR 40 0), some (vI (nI i))] [] σ = Vv 68 0 13 [some (vR 40 0), some (vI (nI (stt t p)))] [] σ' ∧ Fr ntS σ σ' ∧ gI σ' 40 0 4 = nI (stt t p)
  | 0, i, σ, hi, hpi, hB, h4 => by
    have : i = stt t p := by omega
    subst this
    exact ⟨σ, rfl, Fr.rf, h4⟩
  | k + 1, i, σ, hi, hpi, hB, h4 => by
    have hs := stt_le hp
    have hbd := hB.2.1
    have hk := stt_blank hpi (show i < stt t p by omega)
    have hF : Fr ntS σ (sI σ 40 0 4 (nI (i + 1))) := Fr.rf.sI rfl
    obtain ⟨σ', c1, f1, g1⟩ := k_nt13 hp k (i + 1) (sI σ 40 0 4 (nI (i + 1))) (by omega) (by omega) (hB.rd (nt_rd hF)) (gI_sIs _ _ _ _ _)
    refine ⟨σ', ?_, hF.tr f1, g1⟩
    rw [← c1, v_Reader_nextToken_13, hB.1, if_pos (nI_lt (by omega) (by omega)), k_kindAt hB (by omega), cI_s, hk, if_pos (show nI 5 = (5 : Int32) from rfl), nI_1]
theorem k_nt93 {t : TP} {p : Nat} (hp : p ≤ t.2.1) (hk : knt t p = 1 ∨ knt t p = 2) : ∀ (k i : Nat) (σ : St), i + k = ent t p → stt t p < i → TD σ t → gI σ 40 0 5 = nI i → gI σ 40 0 3 = nI (knt t p) → ∃ σ', Vv 68 0 93 [some (vR 40 0), some (vI (nI i))] [] σ = some (none, σ') ∧ Fr ntS σ σ' ∧ gI σ' 40 0 5 = nI (ent t p) ∧ gI σ' 40 0 3 = nI (knt t p) ∧ gI σ' 40 0 4 = gI σ 40 0 4
  | 0, i, σ, hi, hsi, hB, h5, h3 => by
    have hl := ent_le hp
    have he := ent_end hp hk
    have hbd := hB.2.1
    have hi : i = ent t p := by omega
    subst hi
    refine ⟨σ, ?_, Fr.rf, h5, h3, rfl⟩
    rw [v_Reader_nextToken_93, hB.1]
    by_cases hq : ent t p < t.2.1
    · have hkn : kd t (ent t p) ≤ 5 := by
        unfold kd
        split
        · exact (bk_le _).2
        · omega
      rw [if_pos (nI_lt hq (by omega)), k_kindAt hB hl.1, cI_s, h3, if_neg (fun z => he ((nI_eq (by omega) (by omega)).mp z))]
    · rw [if_neg (nI_nlt (by omega) (by omega))]
  | k + 1, i, σ, hi, hsi, hB, h5, h3 => by
    have hl := ent_le hp
    have hbd := hB.2.1
    have ha := ent_all hk (j := i) (by omega) (by omega)
    have hF : Fr ntS σ (sI σ 40 0 5 (nI (i + 1))) := Fr.rf.sI rfl
    obtain ⟨σ', c1, f1, g1, g2, g3⟩ := k_nt93 hp hk k (i + 1) (sI σ 40 0 5 (nI (i + 1))) (by omega) (by omega) (hB.rd (nt_rd hF)) (gI_sIs _ _ _ _ _) ((gI_sIj (by decide)).trans h3)
    refine ⟨σ', ?_, hF.tr f1, g1, g2, g3.trans (gI_sIj (by decide))⟩
    rw [v_Reader_nextToken_93, hB.1, if_pos (nI_lt (by omega) (by omega)), k_kindAt hB (by omega), cI_s, ha, h3, if_pos rfl, nI_1]
    exact c1
/-- the end of nextToken, from the first byte on -/
theorem k_ntE {σ : St} {t : TP} {p : Nat} (hB : TD σ t) (hp : p ≤ t.2.1) (h4 : gI σ 40 0 4 = nI (stt t p)) : ∃ σ', cI (Cc 69 0 [vR 40 0, vI (gI σ 40 0 4)] σ) (fun x6 σ5 => if (gI (sI (sI σ5 40 0 3 x6) 40 0 5 (if (gI (sI σ5 40 0 3 x6) 40 0 2) < ((gI (sI σ5 40 0 3 x6) 40 0 4) + (1 : Int32)) then (gI (sI σ5 40 0 3 x6) 40 0 2) else ((gI (sI σ5 40 0 3 x6) 40 0 4) + (1 : Int32)))) 40 0 3) = (1 : Int32) then Vv 68 0 93 [some (vR 40 0), some (vI (gI (sI (sI σ5 40 0 3 x6) 40 0 5 (if (gI (sI σ5 40 0 3 x6) 40 0 2) < ((gI (sI σ5 40 0 3 x6) 40 0 4) + (1 : Int32)) then (gI (sI σ5 40 0 3 x6) 40 0 2) else ((gI (sI σ5 40 0 3 x6) 40 0 4) + (1 : Int32)))) 40 0 5))] [] (sI (sI σ5 40 0 3 x6) 40 0 5 (if (gI (sI σ5 40 0 3 x6) 40 0 2) < ((gI (sI σ5 40 0 3 x6) 40 0 4) + (1 : Int32)) then (gI (sI σ5 40 0 3 x6) 40 0 2) else ((gI (sI σ5 40 0 3 x6) 40 0 4) + (1 : Int32)))) else if (gI (sI (sI σ5 40 0 3 x6) 40 0 5 (if (gI (sI σ5 40 0 3 x6) 40 0 2) < ((gI (sI σ5 40 0 3 x6) 40 0 4) + (1 : Int32)) then (gI (sI σ5 40 0 3 x6) 40 0 2) else ((gI (sI σ5 40 0 3 x6) 40 0 4) + (1 : Int32)))) 40 0 3) = (2 : Int32) then Vv 68 0 93 [some (vR 40 0), some (vI (gI (sI (sI σ5 40 0 3 x6) 40 0 5 (if (gI (sI σ5 40 0 3 x6) 40 0 2) < ((gI (sI σ5 40 0 3 x6) 40 0 4) + (1 : Int32)) then (gI (sI σ5 40 0 3 x6) 40 0 2) else ((gI (sI σ5 40 0 3 x6) 40 0 4) + (1 : Int32)))) 40 0 5))] [] (sI (sI σ5 40 0 3 x6) 40 0 5 (if (gI (sI σ5 40 0 3 x6) 40 0 2) < ((gI (sI σ5 40 0 3 x6) 40 0 4) + (1 : Int32)) then (gI (sI σ5 40 0 3 x6) 40 0 2) else ((gI (sI σ5 40 0 3 x6) 40 0 4) + (1 : Int32)))) else some (none, sI (sI σ5 40 0 3 x6) 40 0 5 (if (gI (sI σ5 40 0 3 x6) 40 0 2) < ((gI (sI σ5 40 0 3 x6) 40 0 4) + (1 : Int32)) then (gI (sI σ5 40 0 3 x6) 40 0 2) else ((gI (sI σ5 40 0 3 x6) 40 0 4) + (1 : Int32))))) = some (none, σ') ∧ Fr ntS σ σ' ∧ gI σ' 40 0 3 = nI (knt t p) ∧ gI σ' 40 0 4 = nI (stt t p) ∧ gI σ' 40 0 5 = nI (ent t p) := by
  have hs := stt_le hp
  have hl := ent_le hp
  have hbd := hB.2.1
  have h0 := knt_0 hp
  have hkn : knt t p ≤ 5 := by
    unfold knt kd
    split
    · exact (bk_le _).2
    · omega
  have em : (if (gI (sI σ 40 0 3 (nI (knt t p))) 40 0 2) < ((gI (sI σ 40 0 3 (nI (knt t p))) 40 0 4) + (1 : Int32)) then (gI (sI σ 40 0 3 (nI (knt t p))) 40 0 2) else ((gI (sI σ 40 0 3 (nI (knt t p))) 40 0 4) + (1 : Int32))) = nI (if stt t p + 1 ≤ t.2.1 then stt t p + 1 else t.2.1) := by
    rw [gI_sIj (by decide), gI_sIj (by decide), hB.1, h4, nI_1]
    by_cases hq : stt t p + 1 ≤ t.2.1
    · rw [if_neg (nI_nlt (by omega) (by omega)), if_pos hq]
    · rw [if_pos (nI_lt (by omega) (by omega)), if_neg hq]
  rw [h4, k_kindAt hB hs.2, cI_s, show kd t (stt t p) = knt t p from rfl, em, gI_sIj (by decide), gI_sIs, gI_sIs]
  have F : ∀ m, Fr ntS σ (sI (sI σ 40 0 3 (nI (knt t p))) 40 0 5 m) := fun m => (Fr.rf.sI rfl).sI rfl
  have G3 : ∀ m, gI (sI (sI σ 40 0 3 (nI (knt t p))) 40 0 5 m) 40 0 3 = nI (knt t p) := fun m => (gI_sIj (by decide)).trans (gI_sIs _ _ _ _ _)
  have G4 : ∀ m, gI (sI (sI σ 40 0 3 (nI (knt t p))) 40 0 5 m) 40 0 4 = nI (stt t p) := fun m => ((gI_sIj (by decide)).trans (gI_sIj (by decide))).trans h4
  by_cases hw : knt t p = 1 ∨ knt t p = 2
  · have hne : knt t p ≠ 0 := by omega
    have hlt : stt t p < t.2.1 := by
      have : stt t p ≠ t.2.1 := fun z => hne (h0.mpr z)
      omega
    have hsl := hl.2.1 hne
    rw [if_pos (show stt t p + 1 ≤ t.2.1 by omega)]
    obtain ⟨σ1, c1, f1, g5, g3, g4⟩ := k_nt93 hp hw (ent t p - (stt t p + 1)) (stt t p + 1) (sI (sI σ 40 0 3 (nI (knt t p))) 40 0 5 (nI (stt t p + 1))) (by omega) (by omega) (hB.rd (nt_rd (F _))) (gI_sIs _ _ _ _ _) (G3 _)
    refine ⟨σ1, ?_, (F _).tr f1, g3, g4.trans (G4 _), g5⟩
    rcases hw with hw | hw
    · rw [if_pos (by rw [hw]; rfl)]
      exact c1
    · rw [if_neg (q_n1 (by omega) (by omega)), if_pos (by rw [hw]; rfl)]
      exact c1
  · have ee : ent t p = if stt t p + 1 ≤ t.2.1 then stt t p + 1 else t.2.1 := by
      unfold ent
      have : (Nat.beq (knt t p) 1 || Nat.beq (knt t p) 2) = false := by
        cases hz : Nat.beq (knt t p) 1 || Nat.beq (knt t p) 2
        · rfl
        · rw [Bool.or_eq_true] at hz
          exact absurd (hz.imp Nat.eq_of_beq_eq_true Nat.eq_of_beq_eq_true) hw
      rw [this]
      rfl
    rw [if_neg (q_n1 (by omega) (fun z => hw (Or.inl z))), if_neg (q_n2 (by omega) (fun z => hw (Or.inr z))), ← ee]
    exact ⟨_, rfl, F _, G3 _, G4 _, gI_sIs _ _ _ _ _⟩
theorem k_nextTok {σ : St} {t : TP} {p : Nat} (hB : TD σ t) (hp : p ≤ t.2.1) (h5 : gI σ 40 0 5 = nI p) : ∃ σ', Cc 68 0 [vR 40 0] σ = some (none, σ') ∧ Fr ntS σ σ' ∧ gI σ' 40 0 3 = nI (knt t p) ∧ gI σ' 40 0 4 = nI (stt t p) ∧ gI σ' 40 0 5 = nI (ent t p) := by
  have hs := stt_le hp
  have hbd := hB.2.1
  have h55 := knt_5 hp
  have hF : Fr ntS σ (sI σ 40 0 4 (nI p)) := Fr.rf.sI rfl
  obtain ⟨σ1, c1, f1, g1⟩ := k_nt13 hp (stt t p - p) p (sI σ 40 0 4 (nI p)) (by omega) (Nat.le_refl _) (hB.rd (nt_rd hF)) (gI_sIs _ _ _ _ _)
  have B1 := (hB.rd (nt_rd hF)).rd (nt_rd f1)
  obtain ⟨σ2, c2, f2, g3, g4, g5⟩ := k_ntE B1 hp g1
  refine ⟨σ2, ?_, (hF.tr f1).tr f2, g3, g4, g5⟩
  rw [c_Reader_nextToken, gI_sIj (by decide), h5, c1, v_Reader_nextToken_13, B1.1]
  by_cases hq : stt t p < t.2.1
  · have hk5 : kd t (stt t p) ≠ 5 := h55
    have hkn : kd t (stt t p) ≤ 5 := by
      unfold kd
      split
      · exact (bk_le _).2
      · omega
    have hn5 : ¬ nI (kd t (stt t p)) = (5 : Int32) := fun z => hk5 ((nI_eq (b := 5) (by omega) (by omega)).mp z)
    rw [if_pos (nI_lt hq (by omega)), k_kindAt B1 hs.2, cI_s, if_neg hn5]
    exact c2
  · rw [if_neg (nI_nlt (by omega) (by omega))]
    exact c2
theorem d_next {σ : St} {t : TP} {p : Nat} (hB : TD σ t) (h : KD σ t p) : ∃ σ', Cc 68 0 [vR 40 0] σ = some (none, σ') ∧ Fr ntS σ σ' ∧ KD σ' t (ent t p) := by
  have hl := ent_le h.2.2.2.1
  obtain ⟨σ1, c1, f1, g3, g4, g5⟩ := k_nextTok hB hl.1 h.2.2.1
  exact ⟨σ1, c1, f1, g3, g4, g5, hl.1, (f1.i rfl).trans h.2.2.2.2.1, (f1.i rfl).trans h.2.2.2.2.2⟩
