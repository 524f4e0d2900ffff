/-! THE TEXT: what a line leaves; THE REFERENCE reads a token -/
theorem A2_9 {R : RF} {a b c x y : Nat} (ha : a ≠ 0) (hb : b ≠ 0) (hc : c ≠ 9) : nN (A2 R a b c x y) = nN R := (A2_0 ha hb 9).trans (if_neg (fun z => hc z.symm))
theorem A2_8 {R : RF} {a b c x y : Nat} (ha : a ≠ 0) (hb : b ≠ 0) (hc : c ≠ 8) : nA (A2 R a b c x y) = nA R := (A2_0 ha hb 8).trans (if_neg (fun z => hc z.symm))
theorem pLine_wf {t : TP} {p : Nat} {R : RF} (h : WF R) (hA : nA R = 0) (hN : nN R + 1 ≤ 700) {q : Nat} {R' : RF} (e : pLine t p R = .inr (q, R')) : WF (R1 R' 0 9 (nN R' + 1)) ∧ nA R' = 0 ∧ nN R' = nN R := by
  have hb := h.1
  unfold WB at hb
  unfold pLine at e
  cases hn : Nat.beq (nN R) 0
  · rw [hn, cond_false] at e
    unfold pLn at e
    cases c1 : isW t p 7
    · rw [c1, cond_false] at e
      cases c2 : isW t p 5
      · rw [c2, cond_false] at e
        cases c3 : isW t p 1
        · rw [c3, cond_false] at e
          cases c4 : isW t p 9
          · rw [c4, cond_false] at e
            cases c5 : isW t p 4
            · rw [c5] at e; cases e
            · rw [c5, cond_true] at e
              obtain ⟨g0, e⟩ := th_r e
              obtain ⟨_, e⟩ := th_r e
              obtain ⟨g1, e⟩ := th_r e
              obtain ⟨g2, e⟩ := th_r e
              obtain ⟨_, e⟩ := th_r e
              obtain ⟨g3, e⟩ := th_r e
              cases e
              have r0 := rE_n g0
              have r1 := nE_n g1
              have r2 := ex_no.mp (dE_n g2)
              have r3 := nE_n g3
              have n9 : nN (A2 R 10 11 7 (vlt t (e1 t (e1 t p))) (vlt t (e3 t (e1 t p)))) = nN R := A2_9 (by decide) (by decide) (by decide)
              rw [n9]
              exact ⟨WF_L h hA ⟨by omega, hN⟩ (by omega) r1.2.2 r3.2.2 (fun l hl z => by
                have := r2 l hl
                rw [z, Nat.beq_refl] at this
                cases this), (A2_8 (by decide) (by decide) (by decide)).trans hA, rfl⟩
          · rw [c4, cond_true] at e
            obtain ⟨g0, e⟩ := th_r e
            obtain ⟨g1, e⟩ := th_r e
            obtain ⟨g2, e⟩ := th_r e
            obtain ⟨g3, e⟩ := th_r e
            cases e
            have r0 := rE_n g0
            have r1 := nE_n g1
            have r2 := nE_n g2
            have r3 := Nat.ne_of_beq_eq_false (dE_n g3)
            have n9 : nN (A2 R 8 9 6 (vlt t (e1 t p)) (vlt t (e1 t (e1 t p)))) = nN R := A2_9 (by decide) (by decide) (by decide)
            rw [n9]
            exact ⟨WF_W h hA ⟨by omega, hN⟩ (by omega) r1.2.2 r2.2.2 r3, (A2_8 (by decide) (by decide) (by decide)).trans hA, rfl⟩
        · rw [c3, cond_true] at e
          obtain ⟨g0, e⟩ := th_r e
          obtain ⟨g1, e⟩ := th_r e
          obtain ⟨g2, e⟩ := th_r e
          obtain ⟨g3, e⟩ := th_r e
          cases e
          have r0 := rE_n g0
          have r1 := nE_n g1
          have r2 := nE_n g2
          have r3 := dE_n g3
          have n9 : nN (A2 R 6 7 5 (vlt t (e1 t p)) (vlt t (e1 t (e1 t p)))) = nN R := A2_9 (by decide) (by decide) (by decide)
          rw [n9]
          exact ⟨WF_F h hA ⟨by omega, hN⟩ (by omega) (by omega) (by omega) r3, (A2_8 (by decide) (by decide) (by decide)).trans hA, rfl⟩
      · rw [c2, cond_true] at e
        obtain ⟨g0, e⟩ := th_r e
        obtain ⟨g1, e⟩ := th_r e
        obtain ⟨g2, e⟩ := th_r e
        obtain ⟨g3, e⟩ := th_r e
        obtain ⟨_, e⟩ := th_r e
        obtain ⟨g4, e⟩ := th_r e
        cases e
        have r0 := rE_n g0
        have r1 := nE_n g1
        have r2 := nE_n g2
        have r3 := dE_n g3
        have r4 := nE_n g4
        have n9 : nN (R1 (A2 R 3 4 4 (vlt t (e1 t p)) (vlt t (e1 t (e1 t p)))) 5 (nM R) (vlt t (e3 t (e1 t p)))) = nN R := (R1_x _ (by decide) 9).trans (A2_9 (by decide) (by decide) (by decide))
        rw [n9]
        exact ⟨WF_M h hA ⟨by omega, hN⟩ (by omega) (by omega) (by omega) (by omega) r3, (R1_x _ (by decide) 8).trans ((A2_8 (by decide) (by decide) (by decide)).trans hA), rfl⟩
    · rw [c1, cond_true] at e
      obtain ⟨g0, e⟩ := th_r e
      obtain ⟨g1, e⟩ := th_r e
      obtain ⟨g2, e⟩ := th_r e
      obtain ⟨g3, e⟩ := th_r e
      cases e
      have r0 := rE_n g0
      have r1 := nE_n g1
      have r2 := nE_n g2
      have r3 := dE_n g3
      have n9 : nN (A2 R 1 2 3 (vlt t (e1 t p)) (vlt t (e1 t (e1 t p)))) = nN R := A2_9 (by decide) (by decide) (by decide)
      rw [n9]
      exact ⟨WF_P h hA ⟨by omega, hN⟩ (by omega) (by omega) (by omega) r3, (A2_8 (by decide) (by decide) (by decide)).trans hA, rfl⟩
  · rw [hn, cond_true] at e
    obtain ⟨_, e⟩ := th_r e
    obtain ⟨_, e⟩ := th_r e
    obtain ⟨g1, e⟩ := th_r e
    obtain ⟨_, e⟩ := th_r e
    obtain ⟨g2, e⟩ := th_r e
    obtain ⟨_, e⟩ := th_r e
    obtain ⟨g3, e⟩ := th_r e
    cases e
    have r0 : nN R = 0 := Nat.eq_of_beq_eq_true hn
    have r1 := nE_n g1
    have r2 := nE_n g2
    have r3 := nE_n g3
    have n9 : nN (R1 (R1 (R1 R 0 0 (vlt t (e2 t p))) 0 1 (vlt t (e4 t p))) 0 2 (vlt t (e6 t p))) = nN R := rfl
    have n8 : nA (R1 (R1 (R1 R 0 0 (vlt t (e2 t p))) 0 1 (vlt t (e4 t p))) 0 2 (vlt t (e6 t p))) = nA R := rfl
    rw [n9, r0]
    exact ⟨WF_rf h r0 (by omega) (by omega) (by omega), n8.trans hA, rfl⟩
/-! THE REFERENCE: tokens -/
theorem gL_sIsL (σ : St) (t i j : Nat) (v : Int64) (t2 i2 j2 : Nat) (w : Int32) : gL (sI (sL σ t i j v) t2 i2 j2 w) t i j = v := (gL_sL σ t i j v t i j).trans (if_pos ⟨rfl, rfl, rfl⟩)
theorem i_32 : (32 : Int32).toInt = 32 := rfl
theorem eq_i (b c : Int32) : (b = c) = (b.toInt = c.toInt) := propext ⟨fun h => by rw [h], fun h => Int32.toInt_inj.mp h⟩
theorem bk_i (b : Int32) : bk b = if b.toInt = 32 then 5 else if b.toInt = 10 then 5 else if 97 ≤ b.toInt ∧ b.toInt ≤ 122 then 1 else if 48 ≤ b.toInt ∧ b.toInt ≤ 57 then 2 else if b.toInt = 59 then 3 else 4 := by
  unfold bk
  simp only [eq_i, Int32.le_iff_toInt_le]
  rfl
theorem bk_cs (b : Int32) : (bk b = 5 ∧ (b.toInt = 32 ∨ b.toInt = 10)) ∨ (bk b = 1 ∧ 97 ≤ b.toInt ∧ b.toInt ≤ 122) ∨ (bk b = 2 ∧ 48 ≤ b.toInt ∧ b.toInt ≤ 57) ∨ (bk b = 3 ∧ b.toInt = 59) ∨ (bk b = 4 ∧ b.toInt ≠ 32 ∧ b.toInt ≠ 10 ∧ ¬ (97 ≤ b.toInt ∧ b.toInt ≤ 122) ∧ ¬ (48 ≤ b.toInt ∧ b.toInt ≤ 57) ∧ b.toInt ≠ 59) := by
  rw [bk_i]
  repeat' split
  all_goals omega
def TB (σ : St) (t : TP) : Prop := gI σ 96 0 6 = nI t.2.1 ∧ t.2.1 ≤ 700 ∧ ∀ i, i < t.2.1 → gI σ 358731 0 i = t.1 i ∧ -128 ≤ (t.1 i).toInt ∧ (t.1 i).toInt ≤ 127
theorem s_isByte {σ : St} {t : TP} (h : TB σ t) {i : Nat} (hi : i ≤ t.2.1) (a b : Int32) : Cc 213 0 [vR 96 0, vI (nI i), vI a, vI b] σ = some (some (vI (tv (decide (i < t.2.1 ∧ a.toInt ≤ (t.1 i).toInt ∧ (t.1 i).toInt ≤ b.toInt)))), σ) := by
  obtain ⟨h1, h2, h3⟩ := h
  rw [c_M_isByte, h1]
  by_cases hq : i < t.2.1
  · rw [if_pos (nI_lt hq (by omega)), ix_nI (by omega) (by omega), ix_nI (by omega) (by omega), (h3 i hq).1]
    by_cases q1 : t.1 i < a
    · rw [if_pos q1, retZ_0, decide_eq_false (fun z => by rw [Int32.lt_iff_toInt_lt] at q1; omega)]
    · rw [if_neg q1]
      by_cases q2 : t.1 i ≤ b
      · rw [if_pos q2, retZ_1, decide_eq_true ⟨hq, by rw [Int32.lt_iff_toInt_lt] at q1; omega, by rw [Int32.le_iff_toInt_le] at q2; exact q2⟩]
      · rw [if_neg q2, retZ_0, decide_eq_false (fun z => q2 (Int32.le_iff_toInt_le.mpr z.2.2))]
  · rw [if_neg (nI_nlt (by omega) (by omega)), retZ_0, decide_eq_false (fun z => hq z.1)]
def nxS (t _i j : Nat) : Bool := Nat.beq t 96 && (Nat.ble 7 j && Nat.ble j 11)
theorem TB.nx {σ σ' : St} {t : TP} (h : TB σ t) (hf : Fr nxS σ σ') : TB σ' t := ⟨(hf.i rfl).trans h.1, h.2.1, fun i hi => ⟨(hf.i rfl).trans (h.2.2 i hi).1, (h.2.2 i hi).2⟩⟩
/-- a value, as either program has it -/
def RV (x : Int32) (v : Nat) : Prop := ∃ m, m < 2 ^ 30 ∧ x = nI m ∧ (v ≤ 1000 → m = v) ∧ (1000 < v → 1000 < m)
/-- the reference's token from p on -/
def NM (σ : St) (t : TP) (p : Nat) : Prop := gI σ 96 0 7 = nI (ent t p) ∧ gI σ 96 0 8 = nI (knt t p) ∧ gI σ 96 0 9 = nI (stt t p) ∧ (knt t p = 2 → RV (gI σ 96 0 10) (vlt t p)) ∧ (knt t p = 1 → gL σ 96 0 11 = if ent t p - stt t p ≤ 12 then lN (cwd (fun i => ltr t (stt t p + i)) (ent t p - stt t p)) else -1)
/-- blanks are passed over -/
theorem s_nx0 {t : TP} {p : Nat} (hp : p ≤ t.2.1) : ∀ (k i : Nat) (σ : St), i + k = stt t p → p ≤ i → TB σ t → gI σ 96 0 7 = nI i → ∃ σ', Vv 214 0 0 [some (vR 96 0), none] [] σ = Vv 214 0 0 [some (vR 96 0), none] [] σ' ∧ Fr nxS σ σ' ∧ gI σ' 96 0 7 = nI (stt t p)
  | 0, i, σ, hi, hpi, hB, h7 => ⟨σ, rfl, Fr.rf, by rw [h7, show i = stt t p by omega]⟩
  | k + 1, i, σ, hi, hpi, hB, h7 => by
    have hs := stt_le hp
    have hk := stt_blank hpi (show i < stt t p by omega)
    unfold kd at hk
    rw [if_pos (show i < t.2.1 by omega)] at hk
    have hF : Fr nxS σ (sI σ 96 0 7 (nI (i + 1))) := Fr.rf.sI rfl
    obtain ⟨σ', c1, f1, g1⟩ := s_nx0 hp k (i + 1) (sI σ 96 0 7 (nI (i + 1))) (by omega) (by omega) (hB.nx hF) (gI_sIs _ _ _ _ _)
    refine ⟨σ', ?_, hF.tr f1, g1⟩
    rw [← c1]
    have e32 : (32 : Int32).toInt = 32 := rfl
    have e10 : (10 : Int32).toInt = 10 := rfl
    have hcs := bk_cs (t.1 i)
    rw [v_M_next_0, h7, s_isByte hB (by omega), cI_s, tv_ite, h7, s_isByte hB (by omega), cI_s, tv_ite, h7, nI_1]
    by_cases q1 : (t.1 i).toInt = 32
    · rw [decide_eq_true (show i < t.2.1 ∧ (32 : Int32).toInt ≤ (t.1 i).toInt ∧ (t.1 i).toInt ≤ (32 : Int32).toInt from ⟨by omega, by omega, by omega⟩)]
      rfl
    · rw [decide_eq_false (show ¬ (i < t.2.1 ∧ (32 : Int32).toInt ≤ (t.1 i).toInt ∧ (t.1 i).toInt ≤ (32 : Int32).toInt) by omega), decide_eq_true (show i < t.2.1 ∧ (10 : Int32).toInt ≤ (t.1 i).toInt ∧ (t.1 i).toInt ≤ (10 : Int32).toInt from ⟨by omega, by omega, by omega⟩)]
      rfl
/-- the reference's number of k letters -/
def wv (f : Nat → Nat) (k : Nat) : Int64 := if k ≤ 12 then lN (cwd f k) else -1
theorem s_nx102 {t : TP} {p : Nat} (hp : p ≤ t.2.1) (hk1 : knt t p = 1) : ∀ (k j : Nat) (σ : St), stt t p + j + k = ent t p → TB σ t → gI σ 96 0 7 = nI (stt t p + j) → gL σ 96 0 11 = wv (fun i => ltr t (stt t p + i)) j → ∃ σ', Vv 214 0 102 [some (vR 96 0), some (vI (nI j))] [] σ = some (none, σ') ∧ Fr nxS σ σ' ∧ gI σ' 96 0 7 = nI (ent t p) ∧ gL σ' 96 0 11 = wv (fun i => ltr t (stt t p + i)) (ent t p - stt t p) ∧ gI σ' 96 0 8 = gI σ 96 0 8 ∧ gI σ' 96 0 9 = gI σ 96 0 9
  | 0, j, σ, hj, hB, h7, h11 => by
    have hl := ent_le hp
    have he := ent_end hp (Or.inl hk1)
    have hs := stt_le hp
    have e97 : (97 : Int32).toInt = 97 := rfl
    have e122 : (122 : Int32).toInt = 122 := rfl
    rw [hk1] at he
    refine ⟨σ, ?_, Fr.rf, by rw [h7, show stt t p + j = ent t p by omega], by rw [h11, show ent t p - stt t p = j by omega], rfl, rfl⟩
    rw [v_M_next_102, h7, s_isByte hB (by omega), cI_s, tv_ite, decide_eq_false (fun z => ?_)]
    · rfl
    · rw [show stt t p + j = ent t p by omega] at z
      unfold kd at he
      rw [if_pos z.1] at he
      have := bk_cs (t.1 (ent t p))
      omega
  | k + 1, j, σ, hj, hB, h7, h11 => by
    have hl := ent_le hp
    have hs := stt_le hp
    have hbd := hB.2.1
    have ha := ent_all (Or.inl hk1) (j := stt t p + j) (by omega) (by omega)
    rw [hk1] at ha
    obtain ⟨l1, l2, l3⟩ := ltr_1 ha
    have e97 : (97 : Int32).toInt = 97 := rfl
    have e122 : (122 : Int32).toInt = 122 := rfl
    have ei : (t.1 (stt t p + j)).toInt = ltr t (stt t p + j) := by rw [l1, nI_toInt (by omega)]
    have hd : decide (stt t p + j < t.2.1 ∧ (97 : Int32).toInt ≤ (t.1 (stt t p + j)).toInt ∧ (t.1 (stt t p + j)).toInt ≤ (122 : Int32).toInt) = true := decide_eq_true ⟨by omega, by omega, by omega⟩
    rw [v_M_next_102, h7, s_isByte hB (by omega), cI_s, tv_ite, hd, cond_true, h7, ix_nI (show stt t p + j < 700 by omega) (by omega), (hB.2.2 _ (show stt t p + j < t.2.1 by omega)).1, h11]
    by_cases h12 : j ≤ 11
    · have e11 : nI j ≤ (11 : Int32) := by
        rw [Int32.le_iff_toInt_le, nI_toInt (by omega), show (11 : Int32).toInt = 11 from rfl]
        omega
      have ew : (27 : Int64) * wv (fun i => ltr t (stt t p + i)) j + (t.1 (stt t p + j)).toInt64 - (96 : Int64) = wv (fun i => ltr t (stt t p + i)) (j + 1) := by
        unfold wv
        rw [if_pos (show j ≤ 12 by omega), if_pos (show j + 1 ≤ 12 by omega), l1, nI_l (by omega), show (27 : Int64) = lN 27 from rfl, show (96 : Int64) = lN 96 from rfl, lN_mul, lN_add, lN_sub (by omega)]
        show lN (27 * cwd (fun i => ltr t (stt t p + i)) j + ltr t (stt t p + j) - 96) = lN (27 * cwd (fun i => ltr t (stt t p + i)) j + (ltr t (stt t p + j) - 96))
        congr 1
        omega
      have hF : Fr nxS σ (sI (sL σ 96 0 11 (wv (fun i => ltr t (stt t p + i)) (j + 1))) 96 0 7 (nI (stt t p + (j + 1)))) := (Fr.rf.sL rfl).sI rfl
      obtain ⟨σ', c1, f1, g1, g2, g3, g4⟩ := s_nx102 hp hk1 k (j + 1) (sI (sL σ 96 0 11 (wv (fun i => ltr t (stt t p + i)) (j + 1))) 96 0 7 (nI (stt t p + (j + 1)))) (by omega) (hB.nx hF) (gI_sIs _ _ _ _ _) (gL_sIsL _ _ _ _ _ _ _ _ _)
      refine ⟨σ', ?_, hF.tr f1, g1, g2, g3.trans (gI_sIj (by decide)), g4.trans (gI_sIj (by decide))⟩
      have e7 : gI (sL σ 96 0 11 (wv (fun i => ltr t (stt t p + i)) (j + 1))) 96 0 7 = nI (stt t p + j) := h7
      rw [if_pos e11, if_pos e11, ew, e7, nI_1, nI_1, ← c1]
      rfl
    · have e11 : ¬ nI j ≤ (11 : Int32) := by
        rw [Int32.le_iff_toInt_le, nI_toInt (by omega), show (11 : Int32).toInt = 11 from rfl]
        omega
      have ew : (-1 : Int64) = wv (fun i => ltr t (stt t p + i)) (j + 1) := by
        unfold wv
        rw [if_neg (by omega)]
      have hF : Fr nxS σ (sI (sL (sL σ 96 0 11 (-1)) 96 0 11 (-1)) 96 0 7 (nI (stt t p + (j + 1)))) := ((Fr.rf.sL rfl).sL rfl).sI rfl
      obtain ⟨σ', c1, f1, g1, g2, g3, g4⟩ := s_nx102 hp hk1 k (j + 1) (sI (sL (sL σ 96 0 11 (-1)) 96 0 11 (-1)) 96 0 7 (nI (stt t p + (j + 1)))) (by omega) (hB.nx hF) (gI_sIs _ _ _ _ _) ((gL_sIsL _ _ _ _ _ _ _ _ _).trans ew)
      refine ⟨σ', ?_, hF.tr f1, g1, g2, g3.trans (gI_sIj (by decide)), g4.trans (gI_sIj (by decide))⟩
      have e7 : gI (sL (sL σ 96 0 11 (-1)) 96 0 11 (-1)) 96 0 7 = nI (stt t p + j) := h7
      rw [if_neg e11, if_neg e11, e7, nI_1, nI_1, ← c1]
      rfl
