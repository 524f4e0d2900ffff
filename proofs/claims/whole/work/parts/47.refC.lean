/-! THE REFERENCE: moves, runs, lays -/
theorem q_0 : nI 0 = (0 : Int32) := rfl
theorem q_1 : nI 1 = (1 : Int32) := rfl
theorem q_2 : nI 2 = (2 : Int32) := rfl
theorem q_3 : nI 3 = (3 : Int32) := rfl
theorem q_n1 {k : Nat} (hk : k < 2 ^ 31) (h : k ≠ 1) : ¬ nI k = (1 : Int32) := fun z => h ((nI_eq (b := 1) hk (by omega)).mp z)
theorem q_n2 {k : Nat} (hk : k < 2 ^ 31) (h : k ≠ 2) : ¬ nI k = (2 : Int32) := fun z => h ((nI_eq (b := 2) hk (by omega)).mp z)
theorem q_n3 {k : Nat} (hk : k < 2 ^ 31) (h : k ≠ 3) : ¬ nI k = (3 : Int32) := fun z => h ((nI_eq (b := 3) hk (by omega)).mp z)
theorem SE.nw {σ : St} {R : RF} {fl : Nat → Bool} {n : Nat} {F : Nat → Nat} (h : SE σ R fl) : SE (nwS σ n F) R fl := fun p hp => (nwS_o (by decide)).trans (h p hp)
theorem s_moves2 {σ : St} {R : RF} (h : H0 σ R) {fl : Nat → Bool} (hs : SE σ R fl) {f : Nat → Nat} (hn : NH σ R f) (hv : VP R f) (hlw : gI σ 96 0 28 = nI 2) : Cc 269 0 [vR 96 0] σ = some (none, nwS σ (nL R) (mv R (see R fl) 2 f)) := by
  rw [c_M_moves, hlw, if_pos q_2, s_changes h hs hn hv, cV_s]
  rfl
/-- the last loop: each goes, or stays -/
theorem l_moves87 {σ : St} {R : RF} (h : H0 σ R) {law : Nat} (hl3 : law ≤ 3) (hl2 : law ≠ 2) {f : Nat → Nat} (hn : NH σ R f) (hv : VP R f) (hlw : gI σ 96 0 28 = nI law) (S : Nat → Bool) (a1 : Int32) (g : Nat → Nat)
    (hg0 : law = 0 → ∀ l, l < nL R → g l = nx S (nP R) (f l)) (hg1 : law = 1 → ∀ l, l < nL R → g l = (f l + nP R - 1) % nP R) (hg3 : law = 3 → ∀ l, l < nL R → g l = cond (S (f l)) (nx S (nP R) (f l)) (f l)) :
    Vv 269 0 87 [some (vR 96 0), some (vI a1), some (vI (nI (bn S (nP R)))), some (vI 0)] [] σ = some (none, nwS σ (nL R) g) := by
  have hbb := h.b
  have hs := lpU (V := fun j => Vv 269 0 87 [some (vR 96 0), some (vI a1), some (vI (nI (bn S (nP R)))), some (vI (nI j))] [] (nwS σ (nL R) (fun q => if q < j then g q else f q))) (n := nL R) (fun j hj => by
    show Vv _ _ _ _ _ _ = Vv _ _ _ _ _ _
    have hfj := hv.1 j hj
    have hH : H0 (nwS σ (nL R) (fun q => if q < j then g q else f q)) R := h.nw
    have hgj : gI (nwS σ (nL R) (fun q => if q < j then g q else f q)) 3505 0 j = nI (f j) := by
      rw [nwS_g hj]
      try dsimp only
      rw [if_neg (by omega)]
    have hst : ∀ v, v = g j → sI (nwS σ (nL R) (fun q => if q < j then g q else f q)) 3505 0 j (nI v) = nwS σ (nL R) (fun q => if q < j + 1 then g q else f q) := fun v hv => by
      rw [nwS_s hj]
      refine nwS_c (fun q _ => ?_)
      try dsimp only
      by_cases hq : q = j
      · rw [if_pos hq, if_pos (by omega), hv, hq]
      · rw [if_neg hq]
        by_cases hq2 : q < j
        · rw [if_pos hq2, if_pos (by omega)]
        · rw [if_neg hq2, if_neg (by omega)]
    rw [v_M_moves_87, cI_L hH, if_pos (nI_lt hj (by omega)), nwS_o (by decide), hlw]
    have hcase : law = 0 ∨ law = 1 ∨ law = 3 := by omega
    rcases hcase with rfl | rfl | rfl
    · rw [if_neg (by decide), if_pos q_0, ix_nI (by omega) (by omega), hgj, s_nextPlace hH hfj, cI_s, ix_nI (by omega) (by omega), hst _ (hg0 rfl j hj).symm, nI_1]
    · rw [if_pos q_1, ix_nI (by omega) (by omega), hgj, cI_P hH, cI_P hH, if_neg (nI_ne0 (by omega) (by omega)), nI_add, ix_nI (by omega) (by omega)]
      have e1 : nI (f j + nP R) - 1 = nI (f j + nP R - 1) := pk_sub (b := 1) (by omega)
      rw [e1, pk_rem (by omega) (by omega) (by omega), hst _ (hg1 rfl j hj).symm, nI_1]
    · rw [if_neg (by decide), if_neg (by decide), ix_nI (by omega) (by omega), hgj, s_isBit, cI_s, bit_in (by omega) hfj, tv_ite]
      have hg := hg3 rfl j hj
      cases hq : S (f j)
      · rw [hq] at hg
        rw [cond_false, nI_1]
        congr 1
        refine nwS_c (fun q _ => ?_)
        try dsimp only
        by_cases hq2 : q < j
        · rw [if_pos hq2, if_pos (by omega)]
        · rw [if_neg hq2]
          by_cases hq3 : q = j
          · rw [if_pos (by omega), hq3, hg]
            rfl
          · rw [if_neg (by omega)]
      · rw [hq] at hg
        rw [cond_true, ix_nI (by omega) (by omega), hgj, s_nextPlace hH hfj, cI_s, ix_nI (by omega) (by omega), hst _ (show nx S (nP R) (f j) = g j from hg.symm), nI_1])
  have h0 : nwS σ (nL R) (fun q => if q < 0 then g q else f q) = σ := (nwS_c (fun q _ => by (try dsimp only); rw [if_neg (by omega)])).trans (nwS_id hn)
  have hs : Vv 269 0 87 [some (vR 96 0), some (vI a1), some (vI (nI (bn S (nP R)))), some (vI (nI 0))] [] (nwS σ (nL R) (fun q => if q < 0 then g q else f q)) = Vv 269 0 87 [some (vR 96 0), some (vI a1), some (vI (nI (bn S (nP R)))), some (vI (nI (nL R)))] [] (nwS σ (nL R) (fun q => if q < nL R then g q else f q)) := hs
  rw [h0] at hs
  refine Eq.trans hs ?_
  have hH : H0 (nwS σ (nL R) (fun q => if q < nL R then g q else f q)) R := h.nw
  rw [v_M_moves_87, cI_L hH, if_neg (nI_nlt (Nat.le_refl _) (by omega))]
  rw [nwS_c (G := g) (fun q hq => by (try dsimp only); rw [if_pos hq])]
/-- the loop ahead of it, where they aren't glad (law 3), else nothing happens -/
theorem l_moves38 {σ : St} {R : RF} (h : H0 σ R) {fl : Nat → Bool} (hs : SE σ R fl) {law : Nat} (hl3 : law ≤ 3) {f : Nat → Nat} (hn : NH σ R f) (hv : VP R f) (hlw : gI σ 96 0 28 = nI law) (a1 : Int32) (S0 : Nat → Bool) :
    Vv 269 0 38 [some (vR 96 0), some (vI a1), some (vI (nI (bn S0 (nP R)))), some (vI 0)] [] σ = Vv 269 0 87 [some (vR 96 0), some (vI a1), some (vI (nI (bn (fun p => S0 p || (decide (law = 3) && uS R (see R fl) f p)) (nP R)))), some (vI 0)] [] σ := by
  have hbb := h.b
  have hl := lpU (V := fun j => Vv 269 0 38 [some (vR 96 0), some (vI a1), some (vI (nI (bn (fun p => S0 p || (decide (law = 3) && ex (fun l => un R (see R fl) f l && decide (f l = p)) j)) (nP R)))), some (vI (nI j))] [] σ) (n := nL R) (fun j hj => by
    show Vv _ _ _ _ _ _ = Vv _ _ _ _ _ _
    have hfj := hv.1 j hj
    rw [v_M_moves_38, cI_L h, if_pos (nI_lt hj (by omega)), hlw, nI_1]
    by_cases h3 : law = 3
    · subst h3
      rw [if_pos q_3, ix_nI (by omega) (by omega), hn j hj, s_isGlad h hs hj hfj, cI_s, tv_ite]
      have hu : un R (see R fl) f j = !see R fl (f j) (lh R j) := rfl
      cases hq : see R fl (f j) (lh R j)
      · rw [cond_false, ix_nI (by omega) (by omega), hn j hj, bn_orK (by omega) hfj]
        refine congrArg (fun z => Vv 269 0 38 [some (vR 96 0), some (vI a1), some (vI (nI z)), some (vI (nI (j + 1)))] [] σ) ?_
        refine bn_congr (fun p hp => ?_)
        try dsimp only
        rw [ex_succ, hu, hq]
        simp only [decide_true, Bool.true_and, Bool.not_false, Bool.or_assoc]
        congr 2
        exact decide_eq_decide.mpr ⟨Eq.symm, Eq.symm⟩
      · rw [cond_true]
        refine congrArg (fun z => Vv 269 0 38 [some (vR 96 0), some (vI a1), some (vI (nI z)), some (vI (nI (j + 1)))] [] σ) ?_
        refine bn_congr (fun p hp => ?_)
        try dsimp only
        rw [ex_succ, hu, hq]
        simp
    · rw [if_neg (q_n3 (by omega) h3)]
      refine congrArg (fun z => Vv 269 0 38 [some (vR 96 0), some (vI a1), some (vI (nI z)), some (vI (nI (j + 1)))] [] σ) ?_
      refine bn_congr (fun p hp => ?_)
      try dsimp only
      rw [decide_eq_false h3, Bool.false_and, Bool.false_and])
  have h0 : bn (fun p => S0 p || (decide (law = 3) && ex (fun l => un R (see R fl) f l && decide (f l = p)) 0)) (nP R) = bn S0 (nP R) := bn_congr (fun p _ => by
    show (S0 p || (decide (law = 3) && false)) = _
    rw [Bool.and_false, Bool.or_false])
  have hl : Vv 269 0 38 [some (vR 96 0), some (vI a1), some (vI (nI (bn (fun p => S0 p || (decide (law = 3) && ex (fun l => un R (see R fl) f l && decide (f l = p)) 0)) (nP R)))), some (vI (nI 0))] [] σ = Vv 269 0 38 [some (vR 96 0), some (vI a1), some (vI (nI (bn (fun p => S0 p || (decide (law = 3) && uS R (see R fl) f p)) (nP R)))), some (vI (nI (nL R)))] [] σ := hl
  rw [h0] at hl
  refine Eq.trans hl ?_
  rw [v_M_moves_38, cI_L h, if_neg (nI_nlt (Nat.le_refl _) (by omega))]
theorem s_moves {σ : St} {R : RF} (h : H0 σ R) {fl : Nat → Bool} (hs : SE σ R fl) {law : Nat} (hl3 : law ≤ 3) {f : Nat → Nat} (hn : NH σ R f) (hv : VP R f) (hlw : gI σ 96 0 28 = nI law) : Cc 269 0 [vR 96 0] σ = some (none, nwS σ (nL R) (mv R (see R fl) law f)) := by
  have hbb := h.b
  by_cases h2 : law = 2
  · subst h2
    exact s_moves2 h hs hn hv hlw
  · have hul : ∀ l, l < nL R → uS R (see R fl) f (f l) = un R (see R fl) f l := fun l hl => by
      cases hq : un R (see R fl) f l
      · cases hz : uS R (see R fl) f (f l)
        · rfl
        · obtain ⟨k, h1, h3⟩ := ex_iff.mp hz
          rw [Bool.and_eq_true] at h3
          have := hv.2 k l h1 hl (of_decide_eq_true h3.2)
          rw [this, hq] at h3
          cases h3.1
      · exact ex_iff.mpr ⟨l, hl, by rw [hq, decide_eq_true rfl]; rfl⟩
    rw [c_M_moves, hlw, if_neg (q_n2 (by omega) h2), cI_P h, hlw, all_n (by omega)]
    by_cases h3 : law = 3
    · subst h3
      rw [if_pos q_3]
      have hz : (0 : Int32) = nI (bn (fun _ => false) (nP R)) := by rw [bn_0.mpr (fun _ _ => rfl)]; rfl
      have := l_moves38 h hs hl3 hn hv hlw (nI (bn (fun _ => true) (nP R))) (fun _ => false)
      rw [← hz] at this
      rw [this]
      refine l_moves87 h hl3 h2 hn hv hlw _ _ _ (fun z => by cases z) (fun z => by cases z) (fun _ l hl => ?_)
      have e1 : nx (fun p => false || (decide ((3 : Nat) = 3) && uS R (see R fl) f p)) (nP R) (f l) = nx (uS R (see R fl) f) (nP R) (f l) := nx_congr (by have := hv.1 l hl; omega) (fun k _ => by simp)
      rw [e1]
      show cond (un R (see R fl) f l) _ _ = cond _ _ _
      rw [← hul l hl]
      simp
    · rw [if_neg (q_n3 (by omega) h3), l_moves38 h hs hl3 hn hv hlw]
      refine l_moves87 h hl3 h2 hn hv hlw _ _ _ (fun z l hl => ?_) (fun z l hl => ?_) (fun z => absurd z h3)
      · subst z
        show nx (fun _ => true) (nP R) (f l) = _
        exact nx_congr (by have := hv.1 l hl; omega) (fun k _ => by simp)
      · subst z
        rfl
/-- what runs() writes -/
def ryS (t _i _j : Nat) : Bool := Nat.beq t 3505 || Nat.beq t 40377
theorem ry_sc (t i j : Nat) (h : ryS t i j = true) : scM t i j = true := by
  unfold ryS at h
  rw [Bool.or_eq_true] at h
  rcases h with h | h
  · rw [Nat.eq_of_beq_eq_true h]; rfl
  · rw [Nat.eq_of_beq_eq_true h]; rfl
/-- where they were, as far as told -/
def AY (σ : St) (R : RF) (P : Nat → Nat → Nat) (n : Nat) : Prop := ∀ y, y < n → ∀ l, l < nL R → gI σ 40377 0 (6 * y + l) = nI (P y l)
theorem l_runs53 {σ : St} {R : RF} (h : H0 σ R) {f : Nat → Nat} (hn : NH σ R f) {y : Nat} (hy : y ≤ 12) : ∃ σ', Vv 270 0 53 [some (vR 96 0), some (vI (nI y)), some (vI 0)] [] σ = Vv 270 0 53 [some (vR 96 0), some (vI (nI y)), some (vI (nI (nL R)))] [] σ' ∧ σ' = pI σ 40377 0 (fun q => if 6 * y ≤ q ∧ q < 6 * y + nL R then nI (f (q - 6 * y)) else gI σ 40377 0 q) := by
  have hbb := h.b
  refine ⟨_, ?_, rfl⟩
  have hl := lpU (V := fun j => Vv 270 0 53 [some (vR 96 0), some (vI (nI y)), some (vI (nI j))] [] (pI σ 40377 0 (fun q => if 6 * y ≤ q ∧ q < 6 * y + j then nI (f (q - 6 * y)) else gI σ 40377 0 q))) (n := nL R) (fun j hj => by
    show Vv _ _ _ _ _ _ = Vv _ _ _ _ _ _
    have hH : H0 (pI σ 40377 0 (fun q => if 6 * y ≤ q ∧ q < 6 * y + j then nI (f (q - 6 * y)) else gI σ 40377 0 q)) R := h.p (fun _ => rfl)
    rw [v_M_runs_53, cI_L hH, if_pos (nI_lt hj (by omega)), ix_nI (by omega) (by omega), six_n, nI_add, ix_nI (by omega) (by omega), gI_pIn (by decide), hn j hj, sI_pI, nI_1]
    congr 2
    funext q
    unfold upd
    try dsimp only
    by_cases hq : q = 6 * y + j
    · rw [if_pos hq, if_pos (by omega), show q - 6 * y = j by omega]
    · rw [if_neg hq]
      by_cases hq2 : 6 * y ≤ q ∧ q < 6 * y + j
      · rw [if_pos hq2, if_pos (by omega)]
      · rw [if_neg hq2, if_neg (by omega)])
  refine Eq.trans ?_ hl
  have e0 : pI σ 40377 0 (fun q => if 6 * y ≤ q ∧ q < 6 * y + 0 then nI (f (q - 6 * y)) else gI σ 40377 0 q) = σ := by
    have : (fun q => if 6 * y ≤ q ∧ q < 6 * y + 0 then nI (f (q - 6 * y)) else gI σ 40377 0 q) = gI σ 40377 0 := by
      funext q
      rw [if_neg (by omega)]
    rw [this, pI_id]
  show _ = Vv 270 0 53 [some (vR 96 0), some (vI (nI y)), some (vI (nI 0))] [] (pI σ 40377 0 (fun q => if 6 * y ≤ q ∧ q < 6 * y + 0 then nI (f (q - 6 * y)) else gI σ 40377 0 q))
  rw [e0]
  rfl
/-- where they are ahead of a year's exchanges -/
def pb (R : RF) (s : Nat → Nat → Bool) (law : Nat) (mg : Nat → Bool) (f : Nat → Nat) (y : Nat) : Nat → Nat := match y with
  | 0 => f
  | y' + 1 => cond (mg y') (mv R s law (ps R s law mg f y')) (ps R s law mg f y')
theorem pb_ps (R : RF) (s : Nat → Nat → Bool) (law : Nat) (mg : Nat → Bool) (f : Nat → Nat) (y : Nat) : exc R y (pb R s law mg f y) = ps R s law mg f y := by cases y <;> rfl
theorem vp_pb {R : RF} (hw : WF R) {f : Nat → Nat} (h : VP R f) (s : Nat → Nat → Bool) (law : Nat) (mg : Nat → Bool) (y : Nat) : VP R (pb R s law mg f y) := by
  cases y with
  | zero => exact h
  | succ y' =>
    show VP R (cond (mg y') _ _)
    cases mg y'
    · exact vp_ps hw h _ _ _ _
    · exact vp_mv hw (vp_ps hw h _ _ _ _) _ _
theorem l_runs30 {R : RF} {fl : Nat → Bool} {law : Nat} (hl3 : law ≤ 3) {mg : Nat → Bool} {f : Nat → Nat} (hv : VP R f) : ∀ (k y : Nat) (σ : St), y + k = yr R + 1 → H0 σ R → SE σ R fl → gI σ 96 0 28 = nI law → gI σ 96 0 29 = nI (bn mg 12) →
    NH σ R (pb R (see R fl) law mg f y) →
    AY σ R (ps R (see R fl) law mg f) y →
    ∃ σ', Vv 270 0 30 [some (vR 96 0), some (vI (nI y)), none] [] σ = some (none, σ') ∧ Fr ryS σ σ' ∧ AY σ' R (ps R (see R fl) law mg f) (yr R + 1)
  | 0, y, σ, hk, h, hs, hw, hm, hn, ha => by
    have hbb := h.b
    have : y = yr R + 1 := by omega
    subst this
    refine ⟨σ, ?_, Fr.rf, ha⟩
    rw [v_M_runs_30, cI_Y h, if_neg (nI_ge (by omega) (by omega))]
  | k + 1, y, σ, hk, h, hs, hw, hm, hn, ha => by
    have hbb := h.b
    have hexc := pb_ps R (see R fl) law mg f y
    have hvg := vp_pb h.1 hv (see R fl) law mg y
    generalize pb R (see R fl) law mg f y = g at hn hvg hexc
    have step1 : Vv 270 0 30 [some (vR 96 0), some (vI (nI y)), none] [] σ = Vv 270 0 53 [some (vR 96 0), some (vI (nI y)), some (vI 0)] [] (nwS σ (nL R) (ps R (see R fl) law mg f y)) := by
      rw [v_M_runs_30, cI_Y h, if_pos (nI_le (show y ≤ yr R by omega) (by omega)), cI_Y h]
      by_cases hyl : y < yr R
      · rw [if_pos (nI_lt hyl (by omega)), s_exchanges h hn (by omega), cV_s, hexc]
      · rw [if_neg (nI_nlt (by omega) (by omega)), ← hexc, exc_last h.1 g (by omega), nwS_id hn]
    obtain ⟨σ2, e2, e3⟩ := l_runs53 (h.nw (n := nL R) (F := ps R (see R fl) law mg f y)) (f := ps R (see R fl) law mg f y) nwS_NH (y := y) (by omega)
    have hF1 : Fr ryS σ σ2 := by
      rw [e3]
      exact (Fr.rf.pI (fun _ => rfl)).pI (fun _ => rfl)
    have h2 : H0 σ2 R := h.fr hF1 ry_sc
    have hs2 : SE σ2 R fl := fun p hp => (hF1.i rfl).trans (hs p hp)
    have hw2 : gI σ2 96 0 28 = nI law := (hF1.i rfl).trans hw
    have hm2 : gI σ2 96 0 29 = nI (bn mg 12) := (hF1.i rfl).trans hm
    have hn2 : NH σ2 R (ps R (see R fl) law mg f y) := fun l hl => by
      rw [e3, gI_pIn (by decide)]
      exact nwS_g hl
    have ha2 : AY σ2 R (ps R (see R fl) law mg f) (y + 1) := fun y' hy' l hl => by
      rw [e3, gI_pIs]
      by_cases hq : y' = y
      · subst hq
        rw [if_pos (by omega), show 6 * y' + l - 6 * y' = l by omega]
      · rw [if_neg (by omega), nwS_o (by decide)]
        exact ha y' (by omega) l hl
    have step2 : Vv 270 0 53 [some (vR 96 0), some (vI (nI y)), some (vI (nI (nL R)))] [] σ2 = cond (decide (y < yr R) && mg y) (cV (Cc 269 0 [vR 96 0] σ2) (fun σ9 => Vv 270 0 30 [some (vR 96 0), some (vI (nI (y + 1))), none] [] σ9)) (Vv 270 0 30 [some (vR 96 0), some (vI (nI (y + 1))), none] [] σ2) := by
      rw [v_M_runs_53, cI_L h2, if_neg (nI_nlt (Nat.le_refl _) (by omega)), cI_Y h2, nI_1]
      by_cases hyl : y < yr R
      · rw [if_pos (nI_lt hyl (by omega)), hm2, s_isBit, cI_s, bit_in (by omega) (by omega), tv_ite, decide_eq_true hyl, Bool.true_and]
      · rw [if_neg (nI_nlt (by omega) (by omega)), decide_eq_false hyl]
        rfl
    rw [step1, e2, step2]
    cases hq : decide (y < yr R) && mg y
    · -- they stay, or it is the last year
      rw [cond_false]
      by_cases hyl : y < yr R
      · rw [decide_eq_true hyl, Bool.true_and] at hq
        obtain ⟨σ3, q1, q2, q3⟩ := l_runs30 hl3 hv k (y + 1) σ2 (by omega) h2 hs2 hw2 hm2 (by
          show NH σ2 R (cond (mg y) _ _)
          rw [hq]
          exact hn2) ha2
        exact ⟨σ3, q1, hF1.tr q2, q3⟩
      · have : y = yr R := by omega
        subst this
        refine ⟨σ2, ?_, hF1, ha2⟩
        rw [v_M_runs_30, cI_Y h2, if_neg (nI_ge (by omega) (by omega))]
    · rw [Bool.and_eq_true] at hq
      have hyl := of_decide_eq_true hq.1
      rw [cond_true, s_moves h2 hs2 hl3 hn2 (vp_ps h.1 hv _ _ _ _) hw2, cV_s]
      have hF2 : Fr ryS σ2 (nwS σ2 (nL R) (mv R (see R fl) law (ps R (see R fl) law mg f y))) := Fr.rf.pI (fun _ => rfl)
      obtain ⟨σ3, q1, q2, q3⟩ := l_runs30 hl3 hv k (y + 1) (nwS σ2 (nL R) (mv R (see R fl) law (ps R (see R fl) law mg f y))) (by omega) h2.nw hs2.nw ((hF2.i rfl).trans hw2) ((hF2.i rfl).trans hm2) (by
        show NH _ R (cond (mg y) _ _)
        rw [hq.2]
        exact nwS_NH) (fun y' hy' l hl => (nwS_o (by decide)).trans (ha2 y' hy' l hl))
      exact ⟨σ3, q1, (hF1.tr hF2).tr q2, q3⟩
/-- runs() -/
theorem s_runs {σ : St} {R : RF} (h : H0 σ R) {fl : Nat → Bool} (hs : SE σ R fl) {law : Nat} (hl3 : law ≤ 3) (hw : gI σ 96 0 28 = nI law) {mg : Nat → Bool} (hm : gI σ 96 0 29 = nI (bn mg 12)) {f : Nat → Nat} (hv : VP R f) (hst : ∀ l, l < nL R → gI σ 3497 0 l = nI (f l)) :
    ∃ σ', Cc 270 0 [vR 96 0] σ = some (none, σ') ∧ Fr ryS σ σ' ∧ AY σ' R (ps R (see R fl) law mg f) (yr R + 1) := by
  have hbb := h.b
  have hl := lpU (V := fun j => Vv 270 0 2 [some (vR 96 0), some (vI (nI j)), none] [] (pI σ 3505 0 (fun q => if q < j then nI (f q) else gI σ 3505 0 q))) (n := nL R) (fun j hj => by
    show Vv _ _ _ _ _ _ = Vv _ _ _ _ _ _
    have hH : H0 (pI σ 3505 0 (fun q => if q < j then nI (f q) else gI σ 3505 0 q)) R := h.p (fun _ => rfl)
    rw [v_M_runs_2, cI_L hH, if_pos (nI_lt hj (by omega)), ix_nI (by omega) (by omega), ix_nI (by omega) (by omega), gI_pIn (by decide), hst j hj, sI_pI, nI_1]
    congr 2
    funext q
    unfold upd
    try dsimp only
    by_cases hq : q = j
    · rw [if_pos hq, if_pos (by omega), hq]
    · rw [if_neg hq]
      by_cases hq2 : q < j
      · rw [if_pos hq2, if_pos (by omega)]
      · rw [if_neg hq2, if_neg (by omega)])
  have e0 : pI σ 3505 0 (fun q => if q < 0 then nI (f q) else gI σ 3505 0 q) = σ := by
    have : (fun q => if q < 0 then nI (f q) else gI σ 3505 0 q) = gI σ 3505 0 := by
      funext q
      rw [if_neg (by omega)]
    rw [this, pI_id]
  have hl : Vv 270 0 2 [some (vR 96 0), some (vI (nI 0)), none] [] (pI σ 3505 0 (fun q => if q < 0 then nI (f q) else gI σ 3505 0 q)) = Vv 270 0 2 [some (vR 96 0), some (vI (nI (nL R))), none] [] (nwS σ (nL R) f) := hl
  rw [e0] at hl
  have hF : Fr ryS σ (nwS σ (nL R) f) := Fr.rf.pI (fun _ => rfl)
  obtain ⟨σ3, q1, q2, q3⟩ := l_runs30 (R := R) (fl := fl) hl3 (mg := mg) hv (yr R + 1) 0 (nwS σ (nL R) f) (by omega) h.nw hs.nw ((hF.i rfl).trans hw) ((hF.i rfl).trans hm) nwS_NH (fun y' hy' => by omega)
  refine ⟨σ3, ?_, hF.tr q2, q3⟩
  rw [c_M_runs]
  refine Eq.trans hl ?_
  rw [v_M_runs_2, cI_L h.nw, if_neg (nI_nlt (Nat.le_refl _) (by omega))]
  exact q1
