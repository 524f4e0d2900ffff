/-! THE CLASS: slots, tape, counts -/
def othC (t _i _j : Nat) : Bool := Nat.beq t 80 || Nat.beq t 30906 || Nat.beq t 40 || Nat.beq t 358555
theorem oth_cl {σ σ' : St} (h : Fr othC σ σ') : Fr clS σ σ' := h.up (fun t i j hq => by
  cases hz : othC t i j
  · rfl
  · exfalso
    unfold othC at hz
    simp only [Bool.or_eq_true] at hz
    rcases hz with ((h | h) | h) | h <;> (rw [Nat.eq_of_beq_eq_true h] at hq; cases hq))
theorem HC_o {σ σ' : St} {k : Nat} {R : RF} (h : HC σ k R) (hf : Fr othC σ σ') : HC σ' k R := h.fr hf (fun _ => ⟨rfl, fun _ _ => ⟨rfl, rfl, rfl⟩, rfl, rfl, rfl, rfl, rfl⟩)
theorem HV_o {σ σ' : St} {R : RF} (h : HV σ R) (hf : Fr othC σ σ') : HV σ' R := ⟨⟨h.1.1, HC_o h.1.2 hf⟩, fun p hp => ⟨(hf.i rfl).trans (h.2.1 p hp).1, (hf.i rfl).trans (h.2.1 p hp).2⟩, fun z hz l hl => (hf.i rfl).trans (h.2.2.1 z hz l hl), h.2.2.2⟩
theorem IC_o {σ σ' : St} {I : Nat → RF} {kp : Nat → Bool} (h : IC σ I kp) (hf : Fr othC σ σ') : IC σ' I kp := fun k hk => ⟨(hf.i rfl).trans (h k hk).1, fun q => ⟨((h k hk).2 q).1, HC_o ((h k hk).2 q).2 hf⟩⟩
def slC (t _i _j : Nat) : Bool := Nat.beq t 80 || Nat.beq t 30906
theorem sl_oth {σ σ' : St} (h : Fr slC σ σ') : Fr othC σ σ' := h.up (fun t i j hq => by
  unfold othC at hq
  simp only [Bool.or_eq_false_iff] at hq
  unfold slC
  rw [hq.1.1.1, hq.1.1.2]; rfl)
theorem JC_sl {σ σ' : St} {S : AZ} {K : KT} (h : JC σ S) (hf : Fr slC σ σ') (hK : SK σ' K) : JC σ' (zR S, zI S, zk S, K, zT S) :=
  ⟨HV_o h.1 (sl_oth hf), IC_o h.2.1 (sl_oth hf), hK, ⟨(hf.i rfl).trans h.2.2.2.1, h.2.2.2.2.1, fun i hi => ⟨(hf.i rfl).trans (h.2.2.2.2.2.1 i hi).1, (h.2.2.2.2.2.1 i hi).2⟩, (hf.i rfl).trans h.2.2.2.2.2.2.1, (hf.i rfl).trans h.2.2.2.2.2.2.2⟩⟩
theorem SK_KU {σ : St} {K : KT} {s w n : Nat} {f : Nat → Int64} (h : ∀ t, t < 4 → t ≠ s → kw K t ≤ 4 ∧ kn K t ≤ 60 ∧ (kw K t = 4 → gI σ 80 t 1 = 0) ∧ (kw K t ≠ 4 → gI σ 80 t 1 = 1 ∧ gI σ 80 t 2 = nI (kw K t) ∧ gI σ 80 t 3 = nI (kn K t) ∧ ∀ k, k < kn K t → gL σ 30906 t k = kc K t k)) (hw : w < 4) (hn : n ≤ 60) (h0 : gI σ 80 s 1 = 1) (h1 : gI σ 80 s 2 = nI w) (h2 : gI σ 80 s 3 = nI n) (h3 : ∀ k, k < n → gL σ 30906 s k = f k) : SK σ (KU K s w n f) := fun t ht => by
  rw [KU_w, KU_n, KU_c]
  by_cases hq : t = s
  · subst hq
    rw [if_pos rfl, if_pos rfl, if_pos rfl]
    exact ⟨by omega, hn, fun z => by omega, fun _ => ⟨h0, h1, h2, h3⟩⟩
  · rw [if_neg hq, if_neg hq, if_neg hq]
    exact h t ht hq
/-- other slots stay where only slot s is written -/
def s1C (s t i _j : Nat) : Bool := (Nat.beq t 80 || Nat.beq t 30906) && Nat.beq i s
theorem s1_sl {s : Nat} {σ σ' : St} (h : Fr (s1C s) σ σ') : Fr slC σ σ' := h.up (fun t i j hq => by
  unfold slC at hq
  unfold s1C
  rw [hq]; rfl)
theorem s1_t (s j : Nat) : s1C s 80 s j = true ∧ s1C s 30906 s j = true := by
  unfold s1C
  simp
theorem SK_other {σ σ' : St} {K : KT} {s : Nat} (h : SK σ K) (hf : Fr (s1C s) σ σ') : ∀ t, t < 4 → t ≠ s → kw K t ≤ 4 ∧ kn K t ≤ 60 ∧ (kw K t = 4 → gI σ' 80 t 1 = 0) ∧ (kw K t ≠ 4 → gI σ' 80 t 1 = 1 ∧ gI σ' 80 t 2 = nI (kw K t) ∧ gI σ' 80 t 3 = nI (kn K t) ∧ ∀ k, k < kn K t → gL σ' 30906 t k = kc K t k) := fun t ht hts => by
  have hb : Nat.beq t s = false := by
    cases hz : Nat.beq t s
    · rfl
    · exact absurd (Nat.eq_of_beq_eq_true hz) hts
  have e1 : ∀ j, s1C s 80 t j = false := fun j => by unfold s1C; rw [hb, Bool.and_false]
  have e2 : ∀ j, s1C s 30906 t j = false := fun j => by unfold s1C; rw [hb, Bool.and_false]
  obtain ⟨h1, h2, h3, h4⟩ := h t ht
  refine ⟨h1, h2, fun q => (hf.i (e1 _)).trans (h3 q), fun q => ?_⟩
  obtain ⟨g0, g1, g2, g3⟩ := h4 q
  exact ⟨(hf.i (e1 _)).trans g0, (hf.i (e1 _)).trans g1, (hf.i (e1 _)).trans g2, fun k hk => (hf.l (e2 _)).trans (g3 k hk)⟩
theorem u_row {σ : St} {S : AZ} (h : JC σ S) (a1 a2 a3 : Int32) : RCS 179 [vI a1, vI a2, vI a3] σ (vI (Z_row S a1 a2 a3).1) (Z_row S a1 a2 a3).2 := by
  have hc : Cc 179 0 [vR 88 0, vI a1, vI a2, vI a3] σ = cond (rowB a1 a2 a3) (if a3 < 0 then some (some (vI (-3)), σ) else ix a1 4 (fun k3 => cV (Cc 110 0 [vR 80 k3, vI a2, vI a3] σ) (fun σ4 => some (some (vI 0), σ4)))) (some (some (vI (-2)), σ)) := by
    rw [c_H_row, h_isSlot, cI_s, tv_ite, show (4 : Int32) = nI 4 from rfl, inB_if a2 (by omega), ite_n (c := a3 ≤ 60), cond_and, cond_and]
    rfl
  unfold Z_row
  cases hb : rowB a1 a2 a3
  · rw [hb] at hc
    exact ⟨_, hc, Fr.rf, h⟩
  · rw [hb, cond_true] at hc
    rw [cond_true]
    by_cases h0 : a3 < 0
    · rw [if_pos h0] at hc
      rw [decide_eq_true h0]
      exact ⟨_, hc, Fr.rf, h⟩
    · rw [if_neg h0] at hc
      rw [decide_eq_false h0, cond_false]
      unfold rowB at hb
      simp only [Bool.and_eq_true, decide_eq_true_eq] at hb
      obtain ⟨s, hs, rfl⟩ := inB_e (by omega) hb.1.1
      obtain ⟨w, hw, rfl⟩ := inB_e (by omega) hb.1.2
      obtain ⟨n, hn, rfl⟩ := nI_of2 (M := 60) (n := 60) rfl h0 hb.2
      rw [cl_n (by omega), cl_n (by omega), cl_n (by omega)]
      have e60 : ¬ (60 : Int32) < nI n := nI_nlt (a := 60) hn (by omega)
      have emx : (if (0 : Int32) < (if (60 : Int32) < nI n then (60 : Int32) else nI n) then (if (60 : Int32) < nI n then (60 : Int32) else nI n) else 0) = nI n := by
        rw [if_neg e60]
        by_cases hz : n = 0
        · subst hz; rfl
        · rw [if_pos (show (0 : Int32) < nI n from nI_lt (a := 0) (by omega) (by omega))]
      rw [ix_nI hs (by omega), c_Slot_makeAnew, if_pos (by decide), emx] at hc
      have hl := lpU (V := fun j => Vv 110 0 26 [some (vR 80 s), some (vI (nI w)), some (vI (nI n)), some (vI (nI j))] [] (pL (sI (sI (sI σ 80 s 1 1) 80 s 2 (nI w)) 80 s 3 (nI n)) 30906 s (fun q => if q < j then 0 else gL σ 30906 s q))) (n := 60) (fun j hj => by
        show Vv _ _ _ _ _ _ = Vv _ _ _ _ _ _
        have e : nI j < (60 : Int32) := nI_lt (b := 60) hj (by omega)
        rw [v_Slot_makeAnew_26, if_pos e, ix_nI hj (by omega), sL_pL, nI_1]
        congr 2
        funext q
        unfold vp_updL
        try dsimp only
        by_cases hq : q = j
        · rw [if_pos hq, if_pos (by omega)]
        · rw [if_neg hq]
          by_cases hq2 : q < j
          · rw [if_pos hq2, if_pos (by omega)]
          · rw [if_neg hq2, if_neg (by omega)])
      have e0 : pL (sI (sI (sI σ 80 s 1 1) 80 s 2 (nI w)) 80 s 3 (nI n)) 30906 s (fun q => if q < 0 then 0 else gL σ 30906 s q) = sI (sI (sI σ 80 s 1 1) 80 s 2 (nI w)) 80 s 3 (nI n) := by
        have : (fun q => if q < 0 then 0 else gL σ 30906 s q) = gL (sI (sI (sI σ 80 s 1 1) 80 s 2 (nI w)) 80 s 3 (nI n)) 30906 s := by
          funext q
          rw [if_neg (by omega)]
          rfl
        rw [this, pL_id]
      have hl : Vv 110 0 26 [some (vR 80 s), some (vI (nI w)), some (vI (nI n)), some (vI (nI 0))] [] (pL (sI (sI (sI σ 80 s 1 1) 80 s 2 (nI w)) 80 s 3 (nI n)) 30906 s (fun q => if q < 0 then 0 else gL σ 30906 s q)) = Vv 110 0 26 [some (vR 80 s), some (vI (nI w)), some (vI (nI n)), some (vI (nI 60))] [] (pL (sI (sI (sI σ 80 s 1 1) 80 s 2 (nI w)) 80 s 3 (nI n)) 30906 s (fun q => if q < 60 then 0 else gL σ 30906 s q)) := hl
      rw [e0] at hl
      have e : ¬ nI 60 < (60 : Int32) := by decide
      have hl := hl.trans (by rw [v_Slot_makeAnew_26, if_neg e] : _ = some (none, pL (sI (sI (sI σ 80 s 1 1) 80 s 2 (nI w)) 80 s 3 (nI n)) 30906 s (fun q => if q < 60 then 0 else gL σ 30906 s q)))
      rw [q_0] at hl
      rw [hl, cV_s] at hc
      have hF : Fr (s1C s) σ (pL (sI (sI (sI σ 80 s 1 1) 80 s 2 (nI w)) 80 s 3 (nI n)) 30906 s (fun q => if q < 60 then 0 else gL σ 30906 s q)) := (((Fr.rf.sI (s1_t s 1).1).sI (s1_t s 2).1).sI (s1_t s 3).1).pL (fun j => (s1_t s j).2)
      refine ⟨_, hc, oth_cl (sl_oth (s1_sl hF)), JC_sl h (s1_sl hF) (SK_KU (SK_other h.2.2.1 hF) hw (by omega) ?_ ?_ ?_ (fun k hk => ?_))⟩
      · rw [gI_pL, gI_sIj (by decide), gI_sIj (by decide), gI_sIs]
      · rw [gI_pL, gI_sIj (by decide), gI_sIs]
      · rw [gI_pL, gI_sIs]
      · rw [gL_pLs, if_pos (by omega)]
theorem k_cut {σ : St} {s w : Nat} (h : gI σ 80 s 2 = nI w) (hw : w < 4) (v : Int64) : Cc 114 0 [vR 80 s, vL v] σ = some (some (vL (cutW w v)), σ) := by
  rw [c_Slot_cut, h, nI_toInt (by omega)]
  have : w = 0 ∨ w = 1 ∨ w = 2 ∨ w = 3 := by omega
  rcases this with rfl | rfl | rfl | rfl
  · rw [if_pos (by decide)]; rfl
  · rw [if_neg (by decide), if_pos (by decide)]; rfl
  · rw [if_neg (by decide), if_neg (by decide), if_pos (by decide)]; rfl
  · rw [if_neg (by decide), if_neg (by decide), if_neg (by decide)]; rfl
theorem u_write {σ : St} {S : AZ} (h : JC σ S) (a1 a2 : Int32) (v : Int64) : RCS 180 [vI a1, vI a2, vL v] σ (vI (Z_write S a1 a2 v).1) (Z_write S a1 a2 v).2 := by
  unfold Z_write RCS
  rw [c_H_write, h_isSlot, cI_s, tv_ite]
  cases hb : inB a1 4
  · exact ⟨_, rfl, Fr.rf, h⟩
  · obtain ⟨s, hs, rfl⟩ := inB_e (by omega) hb
    obtain ⟨g1, g2, g3, g4⟩ := h.2.2.1 s hs
    rw [cond_true, cond_true, cl_n (by omega), ix_nI hs (by omega)]
    by_cases hw : kw (zK S) s = 4
    · rw [g3 hw, if_pos rfl, decide_eq_true hw]
      exact ⟨_, rfl, Fr.rf, h⟩
    · obtain ⟨d0, d1, d2, d3⟩ := g4 hw
      rw [d0, if_neg (by decide), decide_eq_false hw, ix_nI hs (by omega), k_hasN1 d2 (by omega), cI_s, tv_ite, cond_false]
      cases hb2 : inB a2 (kn (zK S) s)
      · exact ⟨_, rfl, Fr.rf, h⟩
      · obtain ⟨k, hk, rfl⟩ := inB_e (by omega) hb2
        rw [cond_true, cond_true, ix_nI hs (by omega), c_Slot_setNumber, k_hasN1 d2 (by omega), cI_s, inB_n hk (by omega), tv_ite, cond_true, k_cut d1 (by omega), cL_s, ix_nI (by omega) (by omega), cV_s, cl_n (by omega)]
        have hF : Fr (s1C s) σ (sL σ 30906 s k (cutW (kw (zK S) s) v)) := Fr.rf.sL (s1_t s k).2
        refine ⟨_, rfl, oth_cl (sl_oth (s1_sl hF)), JC_sl h (s1_sl hF) (SK_KU (SK_other h.2.2.1 hF) (by omega) g2 d0 d1 d2 (fun j hj => ?_))⟩
        rw [gL_sL]
        by_cases hj2 : j = k
        · rw [if_pos ⟨rfl, rfl, hj2⟩, if_pos hj2]
        · rw [if_neg (fun z => hj2 z.2.2), if_neg hj2]
          exact d3 j hj
theorem gL_cpL' (σ : St) (t1 i1 p1 t2 i2 p2 n t' i' j' : Nat) : gL (cpL σ t1 i1 p1 t2 i2 p2 n) t' i' j' = if t' = t2 ∧ i' = i2 ∧ p2 ≤ j' ∧ j' < p2 + n then gL σ t1 i1 (p1 + (j' - p2)) else gL σ t' i' j' := rfl
theorem u_paste {σ : St} {S : AZ} (h : JC σ S) (a1 a2 a3 a4 a5 : Int32) : RCS 181 [vI a1, vI a2, vI a3, vI a4, vI a5] σ (vI (Z_paste S a1 a2 a3 a4 a5).1) (Z_paste S a1 a2 a3 a4 a5).2 := by
  unfold Z_paste RCS
  rw [c_H_paste, h_isSlot, cI_s, tv_ite, h_isSlot, cI_s, tv_ite, cond_and]
  cases hb : inB a1 4 && inB a3 4
  · exact ⟨_, rfl, Fr.rf, h⟩
  · rw [Bool.and_eq_true] at hb
    obtain ⟨s, hs, rfl⟩ := inB_e (by omega) hb.1
    obtain ⟨t, ht, rfl⟩ := inB_e (by omega) hb.2
    obtain ⟨g1, g2, g3, g4⟩ := h.2.2.1 s hs
    obtain ⟨m1, m2, m3, m4⟩ := h.2.2.1 t ht
    rw [cond_true, cond_true, cl_n (by omega), cl_n (by omega), ix_nI hs (by omega), ix_nI ht (by omega)]
    by_cases hw : kw (zK S) s = 4
    · rw [g3 hw, if_pos rfl, decide_eq_true hw]
      exact ⟨_, rfl, Fr.rf, h⟩
    · obtain ⟨d0, d1, d2, d3⟩ := g4 hw
      rw [d0, if_neg (by decide), decide_eq_false hw, Bool.false_or]
      by_cases hv : kw (zK S) t = 4
      · rw [m3 hv, if_pos rfl, decide_eq_true hv]
        exact ⟨_, rfl, Fr.rf, h⟩
      · obtain ⟨e0, e1, e2, e3⟩ := m4 hv
        rw [e0, if_neg (by decide), decide_eq_false hv, cond_false, d1, e1, eq_c (by omega) (by omega)]
        cases hwv : decide (kw (zK S) s = kw (zK S) t)
        · exact ⟨_, rfl, Fr.rf, h⟩
        · rw [cond_true, cond_true, k_hasN d2 (by omega), cI_s, tv_ite, k_hasN e2 (by omega), cI_s, tv_ite, cond_and, ← Bool.decide_and]
          have hp : decide ((0 ≤ a2.toInt ∧ 0 ≤ a5.toInt ∧ a2.toInt + a5.toInt ≤ kn (zK S) s) ∧ (0 ≤ a4.toInt ∧ 0 ≤ a5.toInt ∧ a4.toInt + a5.toInt ≤ kn (zK S) t)) = pasB a2 a4 a5 (kn (zK S) s) (kn (zK S) t) := decide_eq_decide.mpr (by omega)
          rw [hp]
          cases hz : pasB a2 a4 a5 (kn (zK S) s) (kn (zK S) t)
          · exact ⟨_, rfl, Fr.rf, h⟩
          · have hq : 0 ≤ a2.toInt ∧ 0 ≤ a4.toInt ∧ 0 ≤ a5.toInt ∧ a2.toInt + a5.toInt ≤ kn (zK S) s ∧ a4.toInt + a5.toInt ≤ kn (zK S) t := of_decide_eq_true hz
            rw [cond_true, cond_true, if_pos (by omega)]
            obtain ⟨i, i1, rfl⟩ := nn_e (a := a2) (by omega)
            obtain ⟨k, k1, rfl⟩ := nn_e (a := a4) (by omega)
            obtain ⟨n, n1, rfl⟩ := nn_e (a := a5) (by omega)
            rw [nI_toInt i1, nI_toInt k1, nI_toInt n1] at hq
            rw [nI_clamp i1, nI_clamp k1, nI_clamp n1, cl_n i1, cl_n k1, cl_n n1]
            have hF : Fr (s1C t) σ (cpL σ 30906 s i 30906 t k n) := fun t' i' j' hq' => ⟨rfl, by
              rw [gL_cpL', if_neg]
              rintro ⟨rfl, rfl, -⟩
              rw [(s1_t i' j').2] at hq'
              cases hq'⟩
            refine ⟨_, rfl, oth_cl (sl_oth (s1_sl hF)), JC_sl h (s1_sl hF) (SK_KU (SK_other h.2.2.1 hF) (by omega) m2 e0 e1 e2 (fun j hj => ?_))⟩
            rw [gL_cpL']
            by_cases hj2 : k ≤ j ∧ j < k + n
            · rw [if_pos ⟨rfl, rfl, hj2⟩, if_pos hj2]
              exact d3 _ (by omega)
            · rw [if_neg (fun z => hj2 z.2.2), if_neg hj2]
              exact e3 j hj
