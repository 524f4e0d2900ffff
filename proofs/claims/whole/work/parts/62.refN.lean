/-! THE REFERENCE: images, rate, counts -/
theorem HM_CR {σ σ' : St} {a b : Nat} {R : RF} (hW : WB R) (h : HM σ a R) (hc : CR σ σ' a b) : HM σ' b R := by
  obtain ⟨hf, c1, c2, c3, c4, c5, c6, c7, c8, c9⟩ := hc
  obtain ⟨m1, m2, m3, m4, m5, m6, m7, m8⟩ := h
  unfold WB at hW
  refine ⟨fun j hj => ?_, ?_, fun p hp => ?_, fun m hm => ?_, fun f hf' => ?_, fun w hw => ?_, fun l hl => ?_, fun i hi => ?_⟩
  · rw [c2, if_pos (by omega), show 9 * a + (j + 9 * b - 9 * b) = j + 9 * a by omega]; exact m1 j hj
  · rw [c1, if_pos (by omega), show 1 * a + (b - 1 * b) = a by omega]; exact m2
  · rw [c3, if_pos (by omega), show 12 * a + (2 * p + 12 * b - 12 * b) = 2 * p + 12 * a by omega, c3, if_pos (by omega), show 12 * a + (2 * p + 1 + 12 * b - 12 * b) = 2 * p + 1 + 12 * a by omega]; exact m3 p hp
  · rw [c4, if_pos (by omega), show 14 * a + (2 * m + 14 * b - 14 * b) = 2 * m + 14 * a by omega, c4, if_pos (by omega), show 14 * a + (2 * m + 1 + 14 * b - 14 * b) = 2 * m + 1 + 14 * a by omega, c5, if_pos (by omega), show 7 * a + (m + 7 * b - 7 * b) = m + 7 * a by omega]; exact m4 m hm
  · rw [c6, if_pos (by omega), show 12 * a + (2 * f + 12 * b - 12 * b) = 2 * f + 12 * a by omega, c6, if_pos (by omega), show 12 * a + (2 * f + 1 + 12 * b - 12 * b) = 2 * f + 1 + 12 * a by omega]; exact m5 f hf'
  · rw [c7, if_pos (by omega), show 20 * a + (2 * w + 20 * b - 20 * b) = 2 * w + 20 * a by omega, c7, if_pos (by omega), show 20 * a + (2 * w + 1 + 20 * b - 20 * b) = 2 * w + 1 + 20 * a by omega]; exact m6 w hw
  · rw [c8, if_pos (by omega), show 12 * a + (2 * l + 12 * b - 12 * b) = 2 * l + 12 * a by omega, c8, if_pos (by omega), show 12 * a + (2 * l + 1 + 12 * b - 12 * b) = 2 * l + 1 + 12 * a by omega]; exact m7 l hl
  · rw [c9, if_pos (by omega), show 120 * a + (4 * i + 120 * b - 120 * b) = 4 * i + 120 * a by omega, c9, if_pos (by omega), show 120 * a + (4 * i + 3 + 120 * b - 120 * b) = 4 * i + 3 + 120 * a by omega, c9, if_pos (by omega), show 120 * a + (4 * i + 1 + 120 * b - 120 * b) = 4 * i + 1 + 120 * a by omega, c9, if_pos (by omega), show 120 * a + (4 * i + 2 + 120 * b - 120 * b) = 4 * i + 2 + 120 * a by omega]; exact m8 i hi
theorem HM_CRo {σ σ' : St} {a b c : Nat} {R : RF} (hW : WB R) (hcb : c ≠ b) (h : HM σ c R) (hc : CR σ σ' a b) : HM σ' c R := by
  obtain ⟨hf, c1, c2, c3, c4, c5, c6, c7, c8, c9⟩ := hc
  obtain ⟨m1, m2, m3, m4, m5, m6, m7, m8⟩ := h
  unfold WB at hW
  refine ⟨fun j hj => ?_, ?_, fun p hp => ?_, fun m hm => ?_, fun f hf' => ?_, fun w hw => ?_, fun l hl => ?_, fun i hi => ?_⟩
  · rw [c2, if_neg (by omega)]; exact m1 j hj
  · rw [c1, if_neg (by omega)]; exact m2
  · rw [c3, if_neg (by omega), c3, if_neg (by omega)]; exact m3 p hp
  · rw [c4, if_neg (by omega), c4, if_neg (by omega), c5, if_neg (by omega)]; exact m4 m hm
  · rw [c6, if_neg (by omega), c6, if_neg (by omega)]; exact m5 f hf'
  · rw [c7, if_neg (by omega), c7, if_neg (by omega)]; exact m6 w hw
  · rw [c8, if_neg (by omega), c8, if_neg (by omega)]; exact m7 l hl
  · rw [c9, if_neg (by omega), c9, if_neg (by omega), c9, if_neg (by omega), c9, if_neg (by omega)]; exact m8 i hi
theorem cp_rf {σ σ' : St} (h : Fr cpS σ σ') : Fr rfS σ σ' := h.up (fun t i j hq => by
  cases hz : cpS t i j
  · rfl
  · have : rfS t i j = true := by
      unfold cpS at hz
      simp only [Bool.or_eq_true] at hz
      rcases hz with (((((((h | h) | h) | h) | h) | h) | h) | h) | h <;> (rw [Nat.eq_of_beq_eq_true h]; rfl)
    rw [this] at hq
    cases hq)
theorem SM_cp {σ σ' : St} {K : KT} (h : SM σ K) (hf : Fr cpS σ σ') : SM σ' K := fun s hs => by
  obtain ⟨h1, h2, h3, h4⟩ := h s hs
  refine ⟨h1, h2, fun q => (hf.i rfl).trans (h3 q), fun q => ?_⟩
  obtain ⟨g1, g2, g3⟩ := h4 q
  exact ⟨(hf.i rfl).trans g1, (hf.i rfl).trans g2, fun k hk => (hf.l rfl).trans (g3 k hk)⟩
theorem TM_cp {σ σ' : St} {t : TP} (h : TM σ t) (hf : Fr cpS σ σ') : TM σ' t := ⟨(hf.i rfl).trans h.1, h.2.1, fun i hi => ⟨(hf.i rfl).trans (h.2.2.1 i hi).1, (h.2.2.1 i hi).2⟩, (hf.i rfl).trans h.2.2.2.1, (hf.i rfl).trans h.2.2.2.2⟩
def Z_image (S : AZ) (a1 : Int32) : Int32 × AZ := cond (inB a1 3) (0, (zR S, fun k => if k = cl a1 then zR S else zI S k, fun k => if k = cl a1 then true else zk S k, zK S, zT S)) (-2, S)
theorem n_image {σ : St} {S : AZ} (h : JM σ S) (a1 : Int32) : RMS 369 [vI a1] σ (vI (Z_image S a1).1) (Z_image S a1).2 := by
  have h1 := h.f (thr_F σ)
  have f1 := (thr_F σ).rfs
  unfold Z_image RMS
  rw [c_M_image, s_in, inB_k a1 2 2 rfl, cI_s, tv_ite]
  cases hb : inB a1 3
  · exact ⟨_, rfl, f1, h1⟩
  · obtain ⟨k, hk, rfl⟩ := inB_e (by omega) hb
    obtain ⟨σ2, c2, r2⟩ := s_copyRoof (σ := sI σ 96 0 0 0) (a := 0) (b := 1 + k) (by omega) (by omega) (by omega)
    have e1 : (1 : Int32) + nI k = nI (1 + k) := nI_add 1 k
    have hF : Fr rfS σ2 (sI σ2 1948 0 k 1) := Fr.rf.sI rfl
    rw [cond_true, cond_true, cl_n (by omega), e1]
    rw [show vI (0 : Int32) = vI (nI 0) from rfl, c2, cV_s, if_pos (by decide), ix_nI hk (by omega)]
    refine ⟨_, rfl, f1.tr ((cp_rf r2.1).tr hF), ?_⟩
    have hfr : ∀ (X : Nat → Nat → Nat → Bool), X = (fun t _ _ => Nat.beq t 1948) → Fr X σ2 (sI σ2 1948 0 k 1) := fun X hX => by
      subst hX
      exact Fr.rf.sI rfl
    have g := hfr _ rfl
    refine ⟨⟨h.1.1, (HM_CRo h.1.1.1 (by omega) h1.1.2 r2).fr g (fun _ => ⟨rfl, rfl, rfl, rfl, rfl, rfl, rfl, rfl, rfl⟩)⟩, fun j hj => ?_, ?_, ?_⟩
    · show gI _ 1948 0 j = tv (if j = k then true else zk S j) ∧ ((if j = k then true else zk S j) = true → WF (if j = k then zR S else zI S j) ∧ HM _ (1 + j) (if j = k then zR S else zI S j))
      by_cases hjk : j = k
      · subst hjk
        rw [if_pos rfl, if_pos rfl, gI_sIs]
        exact ⟨rfl, fun _ => ⟨h.1.1, (HM_CR h.1.1.1 h1.1.2 r2).fr g (fun _ => ⟨rfl, rfl, rfl, rfl, rfl, rfl, rfl, rfl, rfl⟩)⟩⟩
      · rw [if_neg hjk, if_neg hjk, gI_sIj hjk, r2.1.i rfl]
        exact ⟨(h1.2.1 j hj).1, fun q => ⟨((h1.2.1 j hj).2 q).1, (HM_CRo ((h1.2.1 j hj).2 q).1.1 (by omega) ((h1.2.1 j hj).2 q).2 r2).fr g (fun _ => ⟨rfl, rfl, rfl, rfl, rfl, rfl, rfl, rfl, rfl⟩)⟩⟩
    · intro s hs
      obtain ⟨x1, x2, x3, x4⟩ := SM_cp h1.2.2.1 r2.1 s hs
      exact ⟨x1, x2, fun q => (gI_sIn (by decide)).trans (x3 q), fun q => ⟨(gI_sIn (by decide)).trans (x4 q).1, (gI_sIn (by decide)).trans (x4 q).2.1, (x4 q).2.2⟩⟩
    · obtain ⟨t1, t2, t3, t4, t5⟩ := TM_cp h1.2.2.2 r2.1
      exact ⟨(gI_sIn (by decide)).trans t1, t2, fun i hi => ⟨(gI_sIn (by decide)).trans (t3 i hi).1, (t3 i hi).2⟩, (gI_sIn (by decide)).trans t4, (gI_sIn (by decide)).trans t5⟩
def Z_back (S : AZ) (a1 : Int32) : Int32 × AZ := cond (inB a1 3) (cond (zk S (cl a1)) (0, (zI S (cl a1), zI S, zk S, zK S, zT S)) (-6, S)) (-2, S)
theorem n_back {σ : St} {S : AZ} (h : JM σ S) (a1 : Int32) : RMS 370 [vI a1] σ (vI (Z_back S a1).1) (Z_back S a1).2 := by
  have h1 := h.f (thr_F σ)
  have f1 := (thr_F σ).rfs
  unfold Z_back RMS
  rw [c_M_back, s_in, inB_k a1 2 2 rfl, cI_s, tv_ite]
  cases hb : inB a1 3
  · exact ⟨_, rfl, f1, h1⟩
  · obtain ⟨k, hk, rfl⟩ := inB_e (by omega) hb
    have e1 : (1 : Int32) + nI k = nI (1 + k) := nI_add 1 k
    rw [cond_true, cond_true, cl_n (by omega), e1, ix_nI hk (by omega), (h1.2.1 k hk).1, tv_ite]
    cases hq : zk S k
    · exact ⟨_, rfl, f1, h1⟩
    · obtain ⟨σ2, c2, r2⟩ := s_copyRoof (σ := sI σ 96 0 0 0) (a := 1 + k) (b := 0) (by omega) (by omega) (by omega)
      obtain ⟨w1, w2⟩ := (h1.2.1 k hk).2 hq
      rw [cond_true, cond_true]
      refine ⟨σ2, by rw [show vI (0 : Int32) = vI (nI 0) from rfl, c2, cV_s], f1.tr (cp_rf r2.1), ⟨w1, HM_CR w1.1 w2 r2⟩, fun j hj => ?_, SM_cp h1.2.2.1 r2.1, TM_cp h1.2.2.2 r2.1⟩
      exact ⟨(r2.1.i rfl).trans (h1.2.1 j hj).1, fun q => ⟨((h1.2.1 j hj).2 q).1, HM_CRo ((h1.2.1 j hj).2 q).1.1 (by omega) ((h1.2.1 j hj).2 q).2 r2⟩⟩
/-! rate -/
theorem R1_x (R : RF) {a b v x : Nat} (hx : x ≠ a) (j : Nat) : R1 R a b v x j = R x j := by
  unfold R1
  rw [if_neg (fun z => hx z.1)]
theorem R1_a (R : RF) (a b v j : Nat) : R1 R a b v a j = if j = b then v else R a j := by
  unfold R1
  by_cases h : j = b
  · rw [if_pos ⟨rfl, h⟩, if_pos h]
  · rw [if_neg (fun z => h z.2), if_neg h]
theorem WF_R5 {R : RF} (h : WF R) {m v : Nat} (hv : v ≤ 99) : WF (R1 R 5 m v) := by
  have ex := fun x (hx : x ≠ 5) j => R1_x R (a := 5) (b := m) (v := v) hx j
  obtain ⟨hb, ht⟩ := h
  refine ⟨?_, ?_⟩
  · show R1 R 5 m v 0 3 ≤ 6 ∧ R1 R 5 m v 0 4 ≤ 7 ∧ R1 R 5 m v 0 5 ≤ 6 ∧ R1 R 5 m v 0 6 ≤ 10 ∧ R1 R 5 m v 0 7 ≤ 6 ∧ R1 R 5 m v 0 8 ≤ 30 ∧ R1 R 5 m v 0 0 ≤ 12 ∧ R1 R 5 m v 0 1 ≤ 3 ∧ R1 R 5 m v 0 2 ≤ 10 ∧ R1 R 5 m v 0 9 ≤ 700
    simp only [ex 0 (by omega)]
    exact hb
  · simp only [WT, nP, nM, nF, nW, nL, nA, yr, nN, px, py, mx, my, mw, fx, fy, wa, wb, lp, lh, ak, aa, ab, ay, ex 0 (by omega), ex 1 (by omega), ex 2 (by omega), ex 3 (by omega), ex 4 (by omega), ex 6 (by omega), ex 7 (by omega), ex 8 (by omega), ex 9 (by omega), ex 10 (by omega), ex 11 (by omega), ex 12 (by omega), ex 13 (by omega), ex 14 (by omega), ex 15 (by omega), R1_a]
    refine ⟨ht.1, ht.2.1, fun q hq => ?_, ht.2.2.2⟩
    have := ht.2.2.1 q hq
    refine ⟨this.1, this.2.1, ?_⟩
    split
    · exact hv
    · exact this.2.2
theorem HM_R5 {σ : St} {R : RF} (h : HM σ 0 R) (m v : Nat) : HM (sI σ 18289 0 m (nI v)) 0 (R1 R 5 m v) := by
  have ex := fun x (hx : x ≠ 5) j => R1_x R (a := 5) (b := m) (v := v) hx j
  obtain ⟨m1, m2, m3, m4, m5, m6, m7, m8⟩ := h
  simp only [HM, nP, nM, nF, nW, nL, nA, nN, px, py, mx, my, mw, fx, fy, wa, wb, lp, lh, ak, aa, ab, ay, ex 0 (by omega), ex 1 (by omega), ex 2 (by omega), ex 3 (by omega), ex 4 (by omega), ex 6 (by omega), ex 7 (by omega), ex 8 (by omega), ex 9 (by omega), ex 10 (by omega), ex 11 (by omega), ex 12 (by omega), ex 13 (by omega), ex 14 (by omega), ex 15 (by omega), R1_a]
  refine ⟨fun j hj => (gI_sIn (by decide)).trans (m1 j hj), (gI_sIn (by decide)).trans m2, fun p hp => ?_, fun q hq => ?_, fun f hf => ?_, fun w hw => ?_, fun l hl => ?_, fun i hi => ?_⟩
  · rw [gI_sIn (by decide), gI_sIn (by decide)]; exact m3 p hp
  · rw [gI_sIn (by decide), gI_sIn (by decide)]
    refine ⟨(m4 q hq).1, (m4 q hq).2.1, ?_⟩
    by_cases hqm : q = m
    · rw [if_pos hqm, hqm]
      exact gI_sIs _ _ _ _ _
    · rw [if_neg hqm, gI_sIj (show q + 7 * 0 ≠ m by omega)]
      exact (m4 q hq).2.2
  · rw [gI_sIn (by decide), gI_sIn (by decide)]; exact m5 f hf
  · rw [gI_sIn (by decide), gI_sIn (by decide)]; exact m6 w hw
  · rw [gI_sIn (by decide), gI_sIn (by decide)]; exact m7 l hl
  · rw [gI_sIn (by decide), gI_sIn (by decide), gI_sIn (by decide), gI_sIn (by decide)]; exact m8 i hi
def Z_rate (S : AZ) (a1 a2 : Int32) : Int32 × AZ := cond (inB a1 (nM (zR S)) && inB a2 100) (cond (decide (0 < nA (zR S))) (-5, S) (nI (mw (zR S) (cl a1)), (R1 (zR S) 5 (cl a1) (cl a2), zI S, zk S, zK S, zT S))) (-2, S)
theorem n_rate {σ : St} {S : AZ} (h : JM σ S) (a1 a2 : Int32) : RMS 367 [vI a1, vI a2] σ (vI (Z_rate S a1 a2).1) (Z_rate S a1 a2).2 := by
  have h1 := h.f (thr_F σ)
  have f1 := (thr_F σ).rfs
  have hbb := h.1.b
  unfold Z_rate RMS
  rw [c_M_rate, r_isMark h1.1, cI_s, tv_ite, s_in, inB_k a2 99 99 rfl, cI_s, tv_ite, cond_and]
  show ∃ σ', cond (inB a1 (nM (zR S)) && inB a2 100) _ _ = _ ∧ _
  cases hb : inB a1 (nM (zR S)) && inB a2 100
  · exact ⟨_, rfl, f1, h1⟩
  · rw [Bool.and_eq_true] at hb
    obtain ⟨m, hm, rfl⟩ := inB_e (by omega) hb.1
    obtain ⟨v, hv, rfl⟩ := inB_e (by omega) hb.2
    rw [cond_true, cond_true, ixh8, h1.1.A, cl_n (by omega), cl_n (by omega), ix_nI (by omega) (by omega), ix_nI (by omega) (by omega)]
    by_cases hA : 0 < nA (zR S)
    · rw [if_neg (nI_nle hA (by omega)), decide_eq_true hA]
      exact ⟨_, rfl, f1, h1⟩
    · have h0 : nA (zR S) = 0 := by omega
      rw [if_pos (show nI (nA (zR S)) ≤ 0 by rw [h0]; decide), decide_eq_false hA, cond_false, h1.1.mw hm]
      have hF : Fr acS (sI σ 96 0 0 0) (sI (sI σ 96 0 0 0) 18289 0 m (nI v)) := Fr.rf.sI (by
        show (false || false || (true && Nat.ble m 6) || scM 18289 0 m) = true
        have : Nat.ble m 6 = true := Nat.ble_eq.mpr (by omega)
        rw [this]
        rfl)
      exact ⟨_, rfl, f1.tr hF.acs, h1.ac hF (fun j _ => gI_sIn (by decide)) ⟨WF_R5 h.1.1 (by omega), HM_R5 h1.1.2 m v⟩⟩
/-! counts -/
def Z_count (S : AZ) (a1 : Int32) : Int32 := cond (inB a1 9) (nI (zR S 0 (cl a1))) (cond (decide (a1.toInt = 9)) (nI (nN (zR S))) (cond (decide (a1.toInt = 10)) (nI (zT S).2.1) (cond (decide (a1.toInt = 11)) (nI (cn (fun s => !decide (kw (zK S) s = 4)) 4)) (-1))))
theorem n_count {σ : St} {S : AZ} (h : JM σ S) (a1 : Int32) : RMS 368 [vI a1] σ (vI (Z_count S a1)) S := by
  have h1 := h.f (thr_F σ)
  have f1 := (thr_F σ).rfs
  have hbb := h.1.b
  unfold Z_count RMS
  rw [c_M_count, s_in, inB_k a1 8 8 rfl, cI_s, tv_ite]
  refine ⟨_, ?_, f1, h1⟩
  show cond (inB a1 9) _ _ = _
  cases hb : inB a1 9
  · rw [cond_false, cond_false]
    have e9 : ix 0 5 (fun k3 => some (some (vI (gI (sI σ 96 0 0 0) 2897 0 k3)), sI σ 96 0 0 0)) = some (some (vI (nI (nN (zR S)))), sI σ 96 0 0 0) := by
      rw [ix0 4, h1.1.N]
    have e11 : Vv 368 0 66 [some (vR 96 0), some (vI a1), some (vI 0), some (vI 0)] [] (sI σ 96 0 0 0) = some (some (vI (nI (cn (fun s => !decide (kw (zK S) s = 4)) 4))), sI σ 96 0 0 0) := by
      refine (lpC (V := fun x j => Vv 368 0 66 [some (vR 96 0), some (vI a1), some (vI x), some (vI (nI j))] [] (sI σ 96 0 0 0)) (P := fun s => !decide (kw (zK S) s = 4)) (n := 4) (fun j x hj => ?_)).trans ?_
      · show Vv _ _ _ _ _ _ = cond _ (Vv _ _ _ _ _ _) (Vv _ _ _ _ _ _)
        obtain ⟨g1, g2, g3, g4⟩ := h1.2.2.1 j hj
        have e4 : nI j < (4 : Int32) := nI_lt (b := 4) hj (by omega)
        rw [v_M_count_66, if_pos e4, ix_nI hj (by omega), Int32.add_zero, nI_1]
        by_cases hw : kw (zK S) j = 4
        · rw [g3 hw, if_pos rfl, decide_eq_true hw]
          rfl
        · rw [(g4 hw).1, if_neg (nn1 (by omega)), decide_eq_false hw]
          rfl
      · have e4 : ¬ nI 4 < (4 : Int32) := by decide
        show Vv _ _ _ _ _ _ = _
        rw [v_M_count_66, if_neg e4]
    rw [e9, e11, h1.2.2.2.1, ite_n, ite_n, ite_n]
    show cond (decide (a1.toInt = 9)) _ (cond (decide (a1.toInt = 10)) _ (cond (decide (a1.toInt = 11)) _ _)) = _
    cases decide (a1.toInt = 9) <;> cases decide (a1.toInt = 10) <;> cases decide (a1.toInt = 11) <;> rfl
  · obtain ⟨k, hk, rfl⟩ := inB_e (by omega) hb
    rw [cond_true, cond_true, ix_nI (by omega) (by omega), cl_n (by omega)]
    exact congrArg (fun z => some (some (vI z), sI σ 96 0 0 0)) (h1.1.2.1 k hk)
