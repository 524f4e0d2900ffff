/-! THE CLASS: words, numbers, what a line is made of -/
theorem k_isWord {σ : St} {t : TP} {p : Nat} (hB : TD σ t) (h : KD σ t p) {k : Nat} (hk : k < 12) : Cc 66 0 [vR 40 0, vR 494 k] σ = some (some (vI (tv (isW t p k))), σ) := by
  obtain ⟨h3, h4, h5, hp, _, _⟩ := h
  have hl := ent_le hp
  have hs := stt_le hp
  have hbd := hB.2.1
  obtain ⟨w1, w2, w3, w4⟩ := wd_ok k hk
  have hkn : knt t p ≤ 5 := by
    unfold knt kd
    split
    · exact (bk_le _).2
    · omega
  unfold isW
  rw [c_Reader_isWord, h3, h4, h5]
  by_cases q1 : knt t p = 1
  · have hsl := hl.2.1 (by omega)
    rw [q1, if_pos q_1, show Nat.beq 1 1 = true from rfl, Bool.true_and, pk_sub (by omega), w3]
    by_cases q2 : ent t p - stt t p = (wd k).length
    · have e7 : nI (ent t p) ≤ (700 : Int32) := by
        rw [Int32.le_iff_toInt_le, nI_toInt (by omega), show (700 : Int32).toInt = 700 from rfl]
        omega
      rw [if_pos (by rw [q2]; rfl), if_pos e7, q2, Nat.beq_refl, Bool.true_and]
      refine lpZn (V := fun j => Vv 66 0 41 [some (vR 40 0), some (vR 494 k), some (vI (nI (stt t p + j)))] [] σ) (P := fun i => !Nat.beq (ltr t (stt t p + i)) ((wd k).getD i 0)) (wd k).length (fun j hj => ?_) ?_
      · show Vv _ _ _ _ _ _ = cond _ _ (Vv _ _ _ _ _ _)
        have ha := ent_all (t := t) (p := p) (Or.inl q1) (j := stt t p + j) (by omega) (by omega)
        rw [q1] at ha
        obtain ⟨l1, l2, l3⟩ := ltr_1 ha
        have hw := wd_l hk j hj
        rw [v_Reader_isWord_41, h5, h4, if_pos (nI_lt (by omega) (by omega)), ix_nI (by omega) (by omega), pk_sub (by omega), show stt t p + j - stt t p = j by omega, ix_nI (by rw [w3]; exact hj) (by rw [w3]; omega), (hB.2.2 _ (show stt t p + j < t.2.1 by omega)).1, wd_s hk j hj, l1, retZ_0, nI_1]
        by_cases q3 : ltr t (stt t p + j) = (wd k).getD j 0
        · rw [if_pos (by rw [q3]), q3, Nat.beq_refl]
          rfl
        · have : Nat.beq (ltr t (stt t p + j)) ((wd k).getD j 0) = false := by
            cases hz : Nat.beq (ltr t (stt t p + j)) ((wd k).getD j 0)
            · rfl
            · exact absurd (Nat.eq_of_beq_eq_true hz) q3
          rw [if_neg (fun z => q3 ((nI_eq (by omega) (by omega)).mp z)), this]
          rfl
      · show Vv _ _ _ _ _ _ = _
        rw [v_Reader_isWord_41, h5, if_neg (nI_nlt (by omega) (by omega)), retZ_1]
    · have : Nat.beq (ent t p - stt t p) (wd k).length = false := by
        cases hz : Nat.beq (ent t p - stt t p) (wd k).length
        · rfl
        · exact absurd (Nat.eq_of_beq_eq_true hz) q2
      have q4 : ¬ nI (ent t p - stt t p) = Int32.ofNat (wd k).length := fun z => q2 ((nI_eq (b := (wd k).length) (by omega) (by omega)).mp z)
      rw [if_neg q4, this, retZ_0]
      rfl
  · have : Nat.beq (knt t p) 1 = false := by
      cases hz : Nat.beq (knt t p) 1
      · rfl
      · exact absurd (Nat.eq_of_beq_eq_true hz) q1
    rw [if_neg (q_n1 (by omega) q1), this, retZ_0]
    rfl
/-- the class's value of k digits -/
def cvl (t : TP) (s k : Nat) : Nat := if dvl t s k ≤ 1000000 then dvl t s k else 1000000
theorem cvl_s {t : TP} {s k : Nat} : cvl t s (k + 1) = if 1000000 < 10 * cvl t s k + (ltr t (s + k) - 48) then 1000000 else 10 * cvl t s k + (ltr t (s + k) - 48) := by
  unfold cvl
  show (if 10 * dvl t s k + (ltr t (s + k) - 48) ≤ 1000000 then 10 * dvl t s k + (ltr t (s + k) - 48) else 1000000) = _
  by_cases h1 : dvl t s k ≤ 1000000
  · rw [if_pos h1]
    by_cases h2 : 10 * dvl t s k + (ltr t (s + k) - 48) ≤ 1000000
    · rw [if_pos h2, if_neg (by omega)]
    · rw [if_neg h2, if_pos (by omega)]
  · rw [if_neg h1, if_neg (by omega), if_pos (by omega)]
theorem cvl_le (t : TP) (s k : Nat) : cvl t s k ≤ 1000000 := by
  unfold cvl
  split <;> omega
theorem k_numTok {σ : St} {t : TP} {p : Nat} (hB : TD σ t) (h : KD σ t p) (h2 : knt t p = 2) : ∃ x, Cc 67 0 [vR 40 0] σ = some (some (vI x), σ) ∧ RV x (vlt t p) := by
  obtain ⟨h3, h4, h5, hp, _, _⟩ := h
  have hl := ent_le hp
  have hs := stt_le hp
  have hbd := hB.2.1
  have hsl := hl.2.1 (by omega)
  refine ⟨nI (cvl t (stt t p) (ent t p - stt t p)), ?_, ?_⟩
  · rw [c_Reader_numberOfToken, h4]
    refine (lpU (V := fun j => Vv 67 0 7 [some (vR 40 0), some (vI (nI (cvl t (stt t p) j))), some (vI (nI (stt t p + j)))] [] σ) (n := ent t p - stt t p) (fun j hj => ?_)).trans ?_
    · show Vv _ _ _ _ _ _ = Vv _ _ _ _ _ _
      have ha := ent_all (t := t) (p := p) (Or.inr h2) (j := stt t p + j) (by omega) (by omega)
      rw [h2] at ha
      obtain ⟨l1, l2, l3⟩ := ltr_2 ha
      have hc := cvl_le t (stt t p) j
      have ee : nI (cvl t (stt t p) j) * (10 : Int32) + nI (ltr t (stt t p + j)) - (48 : Int32) = nI (10 * cvl t (stt t p) j + (ltr t (stt t p + j) - 48)) := by
        rw [show (10 : Int32) = nI 10 from rfl, show (48 : Int32) = nI 48 from rfl, pk_mul, nI_add, pk_sub (by omega)]
        congr 1
        omega
      rw [v_Reader_numberOfToken_7, h5, if_pos (nI_lt (by omega) (by omega)), if_pos (show nI (stt t p + j) < (700 : Int32) from nI_lt (b := 700) (by omega) (by omega)), ix_nI (by omega) (by omega), (hB.2.2 _ (show stt t p + j < t.2.1 by omega)).1, l1, ee, nI_1, cvl_s]
      by_cases hq : 1000000 < 10 * cvl t (stt t p) j + (ltr t (stt t p + j) - 48)
      · rw [if_pos (show (1000000 : Int32) < nI (10 * cvl t (stt t p) j + (ltr t (stt t p + j) - 48)) from nI_lt (a := 1000000) hq (by omega)), if_pos hq]
        rfl
      · rw [if_neg (show ¬ (1000000 : Int32) < nI (10 * cvl t (stt t p) j + (ltr t (stt t p + j) - 48)) from nI_nlt (a := 1000000) (by omega) (by omega)), if_neg hq]
        rfl
    · show Vv _ _ _ _ _ _ = _
      rw [v_Reader_numberOfToken_7, h5, if_neg (nI_nlt (by omega) (by omega))]
  · have hc := cvl_le t (stt t p) (ent t p - stt t p)
    refine ⟨_, by omega, rfl, fun z => ?_, fun z => ?_⟩
    · unfold cvl
      have z : dvl t (stt t p) (ent t p - stt t p) ≤ 1000 := z
      rw [if_pos (by omega)]
      rfl
    · unfold cvl
      have z : 1000 < dvl t (stt t p) (ent t p - stt t p) := z
      split <;> omega
/-- good, or the fault stands -/
def KG (σ : St) (t : TP) (o : OE) (p : Nat) : Prop := match o with
  | none => KD σ t p
  | some e => gI σ 40 0 8 = nI e.1 ∧ gI σ 40 0 9 = nI e.2
def oB (o : OE) : Bool := match o with
  | none => true
  | some _ => false
theorem d_refuse {σ : St} {a b : Int32} : Cc 65 0 [vR 40 0, vI a, vI b] σ = some (some (vI (tv false)), sI (sI σ 40 0 8 a) 40 0 9 b) := by
  rw [c_Reader_refuse]
  rfl
theorem d_word {σ : St} {t : TP} {p : Nat} (hB : TD σ t) (h : KD σ t p) {k : Nat} (hk : k < 12) : ∃ σ', Cc 62 0 [vR 40 0, vR 494 k] σ = some (some (vI (tv (oB (wE t k p)))), σ') ∧ Fr rdS σ σ' ∧ KG σ' t (wE t k p) (ent t p) := by
  unfold wE
  rw [c_Reader_takeWord, k_isWord hB h hk, cI_s, tv_ite]
  cases isW t p k
  · rw [cond_false, h.2.1, d_refuse, cI_s, retZ_tv]
    exact ⟨_, rfl, (Fr.rf.sI rfl).sI rfl, (gI_sIj (by decide)).trans (gI_sIs _ _ _ _ _), gI_sIs _ _ _ _ _⟩
  · obtain ⟨σ1, c1, f1, g1⟩ := d_next hB h
    rw [cond_true, c1, cV_s, retZ_1]
    exact ⟨σ1, rfl, nt_rd f1, g1⟩
theorem d_sign {σ : St} {t : TP} {p : Nat} (hB : TD σ t) (h : KD σ t p) : ∃ σ', Cc 63 0 [vR 40 0] σ = some (some (vI (tv (oB (sE t p)))), σ') ∧ Fr rdS σ σ' ∧ KG σ' t (sE t p) (ent t p) := by
  have hkn : knt t p ≤ 5 := by
    unfold knt kd
    split
    · exact (bk_le _).2
    · omega
  unfold sE
  rw [c_Reader_takeSign, h.1]
  by_cases q3 : knt t p = 3
  · obtain ⟨σ1, c1, f1, g1⟩ := d_next hB h
    rw [q3, if_pos q_3, c1, cV_s, retZ_1]
    exact ⟨σ1, rfl, nt_rd f1, g1⟩
  · have : Nat.beq (knt t p) 3 = false := by
      cases hz : Nat.beq (knt t p) 3
      · rfl
      · exact absurd (Nat.eq_of_beq_eq_true hz) q3
    rw [if_neg (q_n3 (by omega) q3), h.2.1, d_refuse, cI_s, retZ_tv, this]
    exact ⟨_, rfl, (Fr.rf.sI rfl).sI rfl, (gI_sIj (by decide)).trans (gI_sIs _ _ _ _ _), gI_sIs _ _ _ _ _⟩
theorem RV_cmp {x : Int32} {v lo hx : Nat} (h : RV x v) (hlo : lo ≤ 100) (hhx : hx ≤ 100) {β : Type} (a b : β) : (if x < nI lo then b else if x ≤ nI hx - 1 then a else b) = cond (Nat.ble lo v && Nat.blt v hx) a b := by
  obtain ⟨m, hm, rfl, h1, h2⟩ := h
  have e2 : (nI hx - 1).toInt = (hx : Int) - 1 := pk_sub_toInt (b := 1) (by omega) (by omega)
  have e3 : (nI lo).toInt = lo := nI_toInt (by omega)
  have e4 : (nI m).toInt = m := nI_toInt (by omega)
  have k1 : (m < lo ↔ v < lo) ∧ ((m : Int) ≤ (hx : Int) - 1 ↔ v < hx) := by
    by_cases hv : v ≤ 1000
    · rw [h1 hv]; omega
    · have := h2 (by omega); omega
  by_cases q1 : v < lo
  · rw [if_pos (by rw [Int32.lt_iff_toInt_lt, e3, e4]; have := k1.1.mpr q1; omega), ble_f q1]
    rfl
  · rw [if_neg (by rw [Int32.lt_iff_toInt_lt, e3, e4]; have := mt k1.1.mp q1; omega), Nat.ble_eq_true_of_le (show lo ≤ v by omega), Bool.true_and]
    by_cases q2 : v < hx
    · rw [if_pos (by rw [Int32.le_iff_toInt_le, e2, e4]; exact k1.2.mpr q2), show Nat.blt v hx = true from Nat.ble_eq_true_of_le q2]
      rfl
    · rw [if_neg (by rw [Int32.le_iff_toInt_le, e2, e4]; exact mt k1.2.mp q2), show Nat.blt v hx = false from ble_f (by omega)]
      rfl
theorem d_number {σ : St} {t : TP} {p : Nat} (hB : TD σ t) (h : KD σ t p) {lo hx : Nat} (hlo : lo ≤ 100) (hhx : hx ≤ 100) : ∃ σ', Cc 64 0 [vR 40 0, vI (nI lo), vI (nI hx - 1)] σ = some (some (vI (tv (oB (nE t lo hx p)))), σ') ∧ Fr rdS σ σ' ∧ KG σ' t (nE t lo hx p) (ent t p) ∧ (nE t lo hx p = none → gI σ' 40 0 6 = nI (vlt t p) ∧ gI σ' 40 0 7 = nI (stt t p)) := by
  have hkn : knt t p ≤ 5 := by
    unfold knt kd
    split
    · exact (bk_le _).2
    · omega
  unfold nE
  rw [c_Reader_takeNumber, h.1]
  by_cases q2 : knt t p = 2
  · obtain ⟨x, cx, hv⟩ := k_numTok hB h q2
    have F1 : Fr rdS σ (sI (sI σ 40 0 6 x) 40 0 7 (nI (stt t p))) := (Fr.rf.sI rfl).sI rfl
    have g4 : gI (sI (sI σ 40 0 6 x) 40 0 7 (nI (stt t p))) 40 0 4 = nI (stt t p) := by rw [gI_sIj (by decide), gI_sIj (by decide), h.2.1]
    have g6 : gI (sI (sI σ 40 0 6 x) 40 0 7 (nI (stt t p))) 40 0 6 = x := by rw [gI_sIj (by decide), gI_sIs]
    have g7 : gI (sI (sI σ 40 0 6 x) 40 0 7 (nI (stt t p))) 40 0 7 = nI (stt t p) := gI_sIs _ _ _ _ _
    have K1 : KD (sI (sI σ 40 0 6 x) 40 0 7 (nI (stt t p))) t p := ⟨by rw [gI_sIj (by decide), gI_sIj (by decide), h.1], g4, by rw [gI_sIj (by decide), gI_sIj (by decide), h.2.2.1], h.2.2.2.1, by rw [gI_sIj (by decide), gI_sIj (by decide), h.2.2.2.2.1], by rw [gI_sIj (by decide), gI_sIj (by decide), h.2.2.2.2.2]⟩
    have e4 : gI (sI σ 40 0 6 x) 40 0 4 = nI (stt t p) := (gI_sIj (by decide)).trans h.2.1
    rw [q2, if_pos q_2, cx, cI_s, e4, g6, g4, RV_cmp hv hlo hhx]
    generalize sI (sI σ 40 0 6 x) 40 0 7 (nI (stt t p)) = σ1 at F1 g4 g6 g7 K1
    cases hq : Nat.ble lo (vlt t p) && Nat.blt (vlt t p) hx
    · rw [cond_false, d_refuse, cI_s, retZ_tv]
      exact ⟨_, rfl, (F1.sI rfl).sI rfl, ⟨(gI_sIj (by decide)).trans (gI_sIs _ _ _ _ _), gI_sIs _ _ _ _ _⟩, fun z => by cases z⟩
    · obtain ⟨σ2, c2, f2, g2⟩ := d_next (hB.rd F1) K1
      rw [Bool.and_eq_true] at hq
      have hlt : vlt t p < hx := Nat.le_of_ble_eq_true hq.2
      obtain ⟨m, hm, e1, e2, _⟩ := hv
      rw [cond_true, c2, cV_s, retZ_1]
      exact ⟨σ2, rfl, F1.tr (nt_rd f2), g2, fun _ => ⟨by rw [f2.i rfl, g6, e1, e2 (by omega)], by rw [f2.i rfl, g7]⟩⟩
  · have : Nat.beq (knt t p) 2 = false := by
      cases hz : Nat.beq (knt t p) 2
      · rfl
      · exact absurd (Nat.eq_of_beq_eq_true hz) q2
    rw [if_neg (q_n2 (by omega) q2), h.2.1, d_refuse, cI_s, retZ_tv, this]
    exact ⟨_, rfl, (Fr.rf.sI rfl).sI rfl, ⟨(gI_sIj (by decide)).trans (gI_sIs _ _ _ _ _), gI_sIs _ _ _ _ _⟩, fun z => by cases z⟩
theorem d_head {σ : St} {t : TP} {p : Nat} (hB : TD σ t) (h : KD σ t p) {q n most : Nat} (hn : gI σ 32 q 2 = nI n) (hm : pln (q % 5) = most) (hle : n ≤ most) (h10 : most ≤ 10) : ∃ σ', Cc 61 0 [vR 40 0, vR 32 q] σ = some (some (vI (tv (oB (rE n most t p)))), σ') ∧ Fr rdS σ σ' ∧ KG σ' t (rE n most t p) (ent t p) := by
  unfold rE
  rw [c_Reader_takeHead, c_Pairs_isFull, hn, hm]
  by_cases hq : n = most
  · rw [if_neg (show ¬ nI n < Int32.ofNat most from nI_nlt (by omega) (by omega)), retZ_1, cI_s, tv_ite, cond_true, h.2.1, d_refuse, cI_s, retZ_tv, hq, Nat.beq_refl]
    exact ⟨_, rfl, (Fr.rf.sI rfl).sI rfl, (gI_sIj (by decide)).trans (gI_sIs _ _ _ _ _), gI_sIs _ _ _ _ _⟩
  · obtain ⟨σ1, c1, f1, g1⟩ := d_next hB h
    have : Nat.beq n most = false := by
      cases hz : Nat.beq n most
      · rfl
      · exact absurd (Nat.eq_of_beq_eq_true hz) hq
    rw [if_pos (show nI n < Int32.ofNat most from nI_lt (by omega) (by omega)), retZ_0, cI_s, tv_ite, cond_false, c1, cV_s, retZ_1, this]
    exact ⟨σ1, rfl, nt_rd f1, g1⟩
theorem d_hasPair {σ : St} {q n : Nat} {f g : Nat → Nat} (h : PR σ q n f g) (hn : n ≤ pln (q % 5)) (hf : ∀ i, i < n → f i ≤ 30 ∧ g i ≤ 30) {x y : Nat} (hx : x < 2 ^ 31) (hy : y < 2 ^ 31) : Cc 49 0 [vR 32 q, vI (nI x), vI (nI y)] σ = some (some (vI (tv (tkP n f g x y))), σ) := by
  have hpl := pln_lt q
  rw [c_Pairs_hasPair]
  refine lpZ (V := fun j => Vv 49 0 2 [some (vR 32 q), some (vI (nI x)), some (vI (nI y)), some (vI (nI j))] [] σ) n (fun j hj => ?_) ?_
  · show Vv _ _ _ _ _ _ = _
    have hj2 := hf j hj
    rw [v_Pairs_hasPair_2, h.1, if_pos (nI_lt hj (by omega)), ix_nI (by omega) (by omega), ix_nI (by omega) (by omega), (h.2 j hj).1, (h.2 j hj).2, retZ_1, nI_1]
    by_cases q1 : f j = x
    · rw [if_pos (by rw [q1])]
      by_cases q2 : g j = y
      · rw [if_pos (by rw [q2]), q1, q2, Nat.beq_refl, Nat.beq_refl]
        rfl
      · rw [if_neg (fun z => q2 ((nI_eq (by omega) hy).mp z))]
        have : Nat.beq (g j) y = false := by
          cases hz : Nat.beq (g j) y
          · rfl
          · exact absurd (Nat.eq_of_beq_eq_true hz) q2
        rw [this, Bool.and_false]
        rfl
    · rw [if_neg (fun z => q1 ((nI_eq (by omega) hx).mp z))]
      have : Nat.beq (f j) x = false := by
        cases hz : Nat.beq (f j) x
        · rfl
        · exact absurd (Nat.eq_of_beq_eq_true hz) q1
      rw [this, Bool.false_and]
      rfl
  · show Vv _ _ _ _ _ _ = _
    rw [v_Pairs_hasPair_2, h.1, if_neg (nI_nlt (Nat.le_refl _) (by omega)), retZ_0]
theorem d_hasOne {σ : St} {q n : Nat} {f g : Nat → Nat} (h : PR σ q n f g) (hn : n ≤ pln (q % 5)) (hf : ∀ i, i < n → f i ≤ 30) {x : Nat} (hx : x < 2 ^ 31) : Cc 50 0 [vR 32 q, vI (nI x)] σ = some (some (vI (tv (ex (fun k => Nat.beq (f k) x) n))), σ) := by
  have hpl := pln_lt q
  rw [c_Pairs_hasOne]
  refine lpZ (V := fun j => Vv 50 0 2 [some (vR 32 q), some (vI (nI x)), some (vI (nI j))] [] σ) n (fun j hj => ?_) ?_
  · show Vv _ _ _ _ _ _ = _
    have hj2 := hf j hj
    rw [v_Pairs_hasOne_2, h.1, if_pos (nI_lt hj (by omega)), ix_nI (by omega) (by omega), (h.2 j hj).1, retZ_1, nI_1]
    by_cases q1 : f j = x
    · rw [if_pos (by rw [q1]), q1, Nat.beq_refl]
      rfl
    · rw [if_neg (fun z => q1 ((nI_eq (by omega) hx).mp z))]
      have : Nat.beq (f j) x = false := by
        cases hz : Nat.beq (f j) x
        · rfl
        · exact absurd (Nat.eq_of_beq_eq_true hz) q1
      rw [this]
      rfl
  · show Vv _ _ _ _ _ _ = _
    rw [v_Pairs_hasOne_2, h.1, if_neg (nI_nlt (Nat.le_refl _) (by omega)), retZ_0]
