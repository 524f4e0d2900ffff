/-! THE CLASS: tape, counts -/
def tpC (t _i j : Nat) : Bool := Nat.beq t 358555 || (Nat.beq t 40 && Nat.beq j 2)
theorem tp_oth {σ σ' : St} (h : Fr tpC σ σ') : Fr othC σ σ' := h.up (fun t i j hq => by
  unfold othC at hq
  simp only [Bool.or_eq_false_iff] at hq
  unfold tpC
  rw [hq.1.2, hq.2]; rfl)
theorem JC_tp {σ σ' : St} {S : AZ} {tt : TP} (h : JC σ S) (hf : Fr tpC σ σ') (hT : TC σ' tt) : JC σ' (zR S, zI S, zk S, zK S, tt) :=
  ⟨HV_o h.1 (tp_oth hf), IC_o h.2.1 (tp_oth hf), fun s hs => by
    obtain ⟨h1, h2, h3, h4⟩ := h.2.2.1 s hs
    refine ⟨h1, h2, fun q => (hf.i rfl).trans (h3 q), fun q => ?_⟩
    obtain ⟨g0, g1, g2, g3⟩ := h4 q
    exact ⟨(hf.i rfl).trans g0, (hf.i rfl).trans g1, (hf.i rfl).trans g2, fun k hk => (hf.l rfl).trans (g3 k hk)⟩, hT⟩
theorem app1 {σ : St} {t : Nat} (h : gI σ 40 0 2 = nI t) (ht : t < 700) (v l : Int32) (hl : ¬ l < 0) : Vv 53 0 3 [some (vR 40 0), some (vI v), some (vI l)] [] σ = Vv 53 0 3 [some (vR 40 0), some (vI v), some (vI (l + (-8)))] [] (sI (sI σ 358555 0 t (by8 v l)) 40 0 2 (nI (t + 1))) := by
  have e : nI t < (700 : Int32) := nI_lt (b := 700) ht (by omega)
  rw [v_Reader_append_3, if_neg hl, h, if_pos e, ix_nI ht (by omega), gI_sIn (by decide), h, nI_1]
  rfl
theorem k_append {σ : St} {t : Nat} (h : gI σ 40 0 2 = nI t) (ht : t + 4 ≤ 700) (v : Int32) : ∃ σ', Cc 53 0 [vR 40 0, vI v] σ = some (none, σ') ∧ Fr tpC σ σ' ∧ gI σ' 40 0 2 = nI (t + 4) ∧ ∀ i, gI σ' 358555 0 i = if t ≤ i ∧ i < t + 4 then by8 v (shf (i - t)) else gI σ 358555 0 i := by
  rw [c_Reader_append, app1 h (by omega) v 24 (by decide), app1 (gI_sIs _ _ _ _ _) (by omega) v _ (by decide), app1 (gI_sIs _ _ _ _ _) (by omega) v _ (by decide), app1 (gI_sIs _ _ _ _ _) (by omega) v _ (by decide), v_Reader_append_3, if_pos (by decide)]
  refine ⟨_, rfl, (((((((Fr.rf.sI rfl).sI rfl).sI rfl).sI rfl).sI rfl).sI rfl).sI rfl).sI rfl, gI_sIs _ _ _ _ _, fun i => ?_⟩
  rw [gI_sIn (by decide), gI_sI, gI_sIn (by decide), gI_sI, gI_sIn (by decide), gI_sI, gI_sIn (by decide), gI_sI]
  by_cases h3 : i = t + 3
  · rw [if_pos ⟨rfl, rfl, by omega⟩, if_pos (by omega), show i - t = 3 by omega]; rfl
  · rw [if_neg (by omega)]
    by_cases h2 : i = t + 2
    · rw [if_pos ⟨rfl, rfl, by omega⟩, if_pos (by omega), show i - t = 2 by omega]; rfl
    · rw [if_neg (by omega)]
      by_cases h1 : i = t + 1
      · rw [if_pos ⟨rfl, rfl, by omega⟩, if_pos (by omega), show i - t = 1 by omega]; rfl
      · rw [if_neg (by omega)]
        by_cases h0 : i = t
        · rw [if_pos ⟨rfl, rfl, by omega⟩, if_pos (by omega), show i - t = 0 by omega]; rfl
        · rw [if_neg (by omega), if_neg (by omega)]
theorem u_feed {σ : St} {S : AZ} (h : JC σ S) (a1 a2 a3 a4 a5 : Int32) : RCS 115 [vI a1, vI a2, vI a3, vI a4, vI a5] σ (vI (Z_feed S a1 a2 a3 a4 a5).1) (Z_feed S a1 a2 a3 a4 a5).2 := by
  obtain ⟨t1, t2, t3, t4, t5⟩ := h.2.2.2
  have e20 : nI (zT S).2.1 + 20 = nI ((zT S).2.1 + 20) := nI_add _ 20
  unfold Z_feed RCS
  rw [c_H_feed, t1, e20]
  by_cases hle : (zT S).2.1 + 20 ≤ 700
  · rw [if_pos (show nI ((zT S).2.1 + 20) ≤ (700 : Int32) from nI_le (b := 700) hle (by omega)), decide_eq_true hle]
    obtain ⟨σ1, c1, g1, x1, y1⟩ := k_append t1 (by omega) a1
    obtain ⟨σ2, c2, g2, x2, y2⟩ := k_append x1 (by omega) a2
    obtain ⟨σ3, c3, g3, x3, y3⟩ := k_append x2 (by omega) a3
    obtain ⟨σ4, c4, g4, x4, y4⟩ := k_append x3 (by omega) a4
    obtain ⟨σ5, c5, g5, x5, y5⟩ := k_append x4 (by omega) a5
    have hF : Fr tpC σ σ5 := (((g1.tr g2).tr g3).tr g4).tr g5
    refine ⟨σ5, by rw [c1, cV_s, c2, cV_s, c3, cV_s, c4, cV_s, c5, cV_s, x5]; rfl, oth_cl (tp_oth hF), JC_tp h hF ⟨x5, hle, fun i hi => ?_, (hF.i rfl).trans t4, (hF.i rfl).trans t5⟩⟩
    have hi : i < (zT S).2.1 + 20 := hi
    show gI σ5 358555 0 i = (if i < (zT S).2.1 then (zT S).1 i else fb a1 a2 a3 a4 a5 (i - (zT S).2.1)) ∧ _
    have hb : ∀ k, k < 20 → -128 ≤ (fb a1 a2 a3 a4 a5 k).toInt ∧ (fb a1 a2 a3 a4 a5 k).toInt ≤ 127 := fun k _ => by8_in _ _
    by_cases hlt : i < (zT S).2.1
    · show _ ∧ -128 ≤ (if i < (zT S).2.1 then (zT S).1 i else fb a1 a2 a3 a4 a5 (i - (zT S).2.1)).toInt ∧ (if i < (zT S).2.1 then (zT S).1 i else fb a1 a2 a3 a4 a5 (i - (zT S).2.1)).toInt ≤ 127
      rw [if_pos hlt, y5, if_neg (by omega), y4, if_neg (by omega), y3, if_neg (by omega), y2, if_neg (by omega), y1, if_neg (by omega)]
      exact t3 i hlt
    · show _ ∧ -128 ≤ (if i < (zT S).2.1 then (zT S).1 i else fb a1 a2 a3 a4 a5 (i - (zT S).2.1)).toInt ∧ (if i < (zT S).2.1 then (zT S).1 i else fb a1 a2 a3 a4 a5 (i - (zT S).2.1)).toInt ≤ 127
      rw [if_neg hlt]
      refine ⟨?_, hb _ (by omega)⟩
      have hcase : i - (zT S).2.1 < 4 ∨ (4 ≤ i - (zT S).2.1 ∧ i - (zT S).2.1 < 8) ∨ (8 ≤ i - (zT S).2.1 ∧ i - (zT S).2.1 < 12) ∨ (12 ≤ i - (zT S).2.1 ∧ i - (zT S).2.1 < 16) ∨ (16 ≤ i - (zT S).2.1 ∧ i - (zT S).2.1 < 20) := by omega
      unfold fb
      rcases hcase with hc | hc | hc | hc | hc
      · rw [y5, if_neg (by omega), y4, if_neg (by omega), y3, if_neg (by omega), y2, if_neg (by omega), y1, if_pos (by omega), show (i - (zT S).2.1) / 4 = 0 by omega, show (i - (zT S).2.1) % 4 = i - (zT S).2.1 by omega]; rfl
      · rw [y5, if_neg (by omega), y4, if_neg (by omega), y3, if_neg (by omega), y2, if_pos (by omega), show (i - (zT S).2.1) / 4 = 1 by omega, show (i - (zT S).2.1) % 4 = i - ((zT S).2.1 + 4) by omega]; rfl
      · rw [y5, if_neg (by omega), y4, if_neg (by omega), y3, if_pos (by omega), show (i - (zT S).2.1) / 4 = 2 by omega, show (i - (zT S).2.1) % 4 = i - ((zT S).2.1 + 4 + 4) by omega]; rfl
      · rw [y5, if_neg (by omega), y4, if_pos (by omega), show (i - (zT S).2.1) / 4 = 3 by omega, show (i - (zT S).2.1) % 4 = i - ((zT S).2.1 + 4 + 4 + 4) by omega]; rfl
      · rw [y5, if_pos (by omega), show (i - (zT S).2.1) / 4 = 4 by omega, show (i - (zT S).2.1) % 4 = i - ((zT S).2.1 + 4 + 4 + 4 + 4) by omega]; rfl
  · rw [if_neg (show ¬ nI ((zT S).2.1 + 20) ≤ (700 : Int32) from nI_ge (a := 700) (by omega) (by omega)), decide_eq_false hle]
    exact ⟨_, rfl, Fr.rf, h⟩
theorem u_end {σ : St} {S : AZ} (h : JC σ S) (a1 : Int32) : RCS 116 [vI a1] σ (vI (Z_end S a1).1) (Z_end S a1).2 := by
  obtain ⟨t1, t2, t3, t4, t5⟩ := h.2.2.2
  unfold Z_end RCS
  rw [c_H_end, t1, inB_if2 a1 (by omega)]
  cases hb : inB a1 ((zT S).2.1 + 1)
  · exact ⟨_, rfl, Fr.rf, h⟩
  · obtain ⟨k, hk, rfl⟩ := inB_e (by omega) hb
    rw [cl_n (by omega)]
    have hF : Fr tpC σ (sI σ 40 0 2 (nI k)) := Fr.rf.sI rfl
    refine ⟨_, rfl, oth_cl (tp_oth hF), JC_tp h hF ⟨gI_sIs _ _ _ _ _, by show k ≤ 700; omega, fun i hi => ?_, ?_, ?_⟩⟩
    · rw [gI_sIn (by decide)]
      have hi : i < k := hi
      exact t3 i (by omega)
    · rw [gI_sIj (by decide)]
      exact t4
    · rw [gI_sIj (by decide)]
      exact t5
theorem u_fault {σ : St} {S : AZ} (h : JC σ S) (a1 : Int32) : RCS 118 [vI a1] σ (vI (Z_fault S a1)) S := by
  obtain ⟨t1, t2, t3, t4, t5⟩ := h.2.2.2
  unfold Z_fault RCS
  rw [c_H_fault, t4, t5, ite_n, ite_n]
  refine ⟨_, ?_, Fr.rf, h⟩
  cases decide (a1 = 0) <;> cases decide (a1 = 1) <;> rfl
theorem k_slotsHeld {σ : St} {K : KT} (h : SK σ K) : Cc 198 0 [vR 88 0] σ = some (some (vI (nI (cn (fun s => !decide (kw K s = 4)) 4))), σ) := by
  rw [c_H_slotsHeld]
  refine (lpC (V := fun x j => Vv 198 0 4 [some (vR 88 0), some (vI x), some (vI (nI j))] [] σ) (P := fun s => !decide (kw K s = 4)) (n := 4) (fun j x hj => ?_)).trans ?_
  · show Vv _ _ _ _ _ _ = cond _ (Vv _ _ _ _ _ _) (Vv _ _ _ _ _ _)
    obtain ⟨g1, g2, g3, g4⟩ := h j hj
    have e4 : nI j < (4 : Int32) := nI_lt (b := 4) hj (by omega)
    rw [v_H_slotsHeld_4, if_pos e4, ix_nI hj (by omega), nI_1]
    by_cases hw : kw K j = 4
    · rw [g3 hw, if_pos rfl, decide_eq_true hw]
      rfl
    · rw [(g4 hw).1, if_neg (by decide), decide_eq_false hw]
      rfl
  · have e4 : ¬ nI 4 < (4 : Int32) := by decide
    show Vv _ _ _ _ _ _ = _
    rw [v_H_slotsHeld_4, if_neg e4]
theorem u_count {σ : St} {S : AZ} (h : JC σ S) (a1 : Int32) : RCS 176 [vI a1] σ (vI (Z_count S a1)) S := by
  refine ⟨σ, ?_, Fr.rf, h⟩
  have hv := h.1.1
  unfold Z_count
  rw [c_H_count, k_slotsHeld h.2.2.1, cI_s, hv.years, hv.law, hv.odds, hv.prP.1, hv.prM.1, hv.prF.1, hv.prW.1, hv.prL.1, hv.A, hv.N, h.2.2.2.1]
  cases hb : inB a1 9
  · have hn : ¬ (0 ≤ a1.toInt ∧ a1.toInt < (9 : Nat)) := of_decide_eq_false hb
    rw [if_neg (by omega), if_neg (by omega), if_neg (by omega), if_neg (by omega), if_neg (by omega), if_neg (by omega), if_neg (by omega), if_neg (by omega), if_neg (by omega), ite_n, ite_n, ite_n]
    show cond (decide (a1.toInt = 9)) _ (cond (decide (a1.toInt = 10)) _ (cond (decide (a1.toInt = 11)) _ _)) = _
    cases decide (a1.toInt = 9) <;> cases decide (a1.toInt = 10) <;> cases decide (a1.toInt = 11) <;> rfl
  · obtain ⟨k, hk, rfl⟩ := inB_e (by omega) hb
    rw [cond_true, cl_n (by omega), nI_toInt (by omega)]
    have hc : k = 0 ∨ k = 1 ∨ k = 2 ∨ k = 3 ∨ k = 4 ∨ k = 5 ∨ k = 6 ∨ k = 7 ∨ k = 8 := by omega
    rcases hc with rfl | rfl | rfl | rfl | rfl | rfl | rfl | rfl | rfl <;> rfl
