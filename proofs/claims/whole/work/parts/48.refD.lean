/-! THE REFERENCE: lays, laysNow; what is asked for; joy -/
/-- what lays() writes -/
def lyS (t _i j : Nat) : Bool := Nat.beq t 3497 || Nat.beq t 3489 || (Nat.beq t 96 && (Nat.beq j 26 || Nat.beq j 28 || Nat.beq j 29))
theorem ly_sc (t i j : Nat) (h : lyS t i j = true) : scM t i j = true := by
  unfold lyS at h
  simp only [Bool.or_eq_true, Bool.and_eq_true] at h
  rcases h with (h | h) | ⟨h1, (h2 | h2) | h2⟩
  · rw [Nat.eq_of_beq_eq_true h]; rfl
  · rw [Nat.eq_of_beq_eq_true h]; rfl
  · rw [Nat.eq_of_beq_eq_true h1, Nat.eq_of_beq_eq_true h2]; rfl
  · rw [Nat.eq_of_beq_eq_true h1, Nat.eq_of_beq_eq_true h2]; rfl
  · rw [Nat.eq_of_beq_eq_true h1, Nat.eq_of_beq_eq_true h2]; rfl
theorem s_laysF {σ : St} {R : RF} (h : H0 σ R) : ∃ σ', Cc 262 0 [vR 96 0] σ = some (none, σ') ∧ Fr lyS σ σ' ∧ H0 σ' R ∧ gI σ' 96 0 28 = nI (lw R) ∧ gI σ' 96 0 29 = nI (bn (fun _ => true) 12) ∧ gI σ' 96 0 26 = nI (bn (fal R) (nF R)) ∧ (∀ l, l < nL R → gI σ' 3497 0 l = nI (lp R l)) ∧ SE σ' R (fal R) := by
  have hbb := h.b
  have hb0 : H0 (sI (sI σ 96 0 28 (nI (lw R))) 96 0 29 4095) R := (h.s rfl).s rfl
  have hl := lpU (V := fun j => Vv 262 0 19 [some (vR 96 0), some (vI (nI j))] [] (pI (sI (sI σ 96 0 28 (nI (lw R))) 96 0 29 4095) 3497 0 (fun q => if q < j then nI (lp R q) else gI σ 3497 0 q))) (n := nL R) (fun j hj => by
    show Vv _ _ _ _ _ _ = Vv _ _ _ _ _ _
    rw [v_M_lays_19, cI_L (hb0.p (fun _ => rfl)), if_pos (nI_lt hj (by omega)), two_n, ix_nI (by omega) (by omega), ix_nI (by omega) (by omega), gI_pIn (by decide), gI_sIn (by decide), gI_sIn (by decide), h.lp hj, sI_pI, nI_1]
    congr 2
    funext q
    unfold upd
    try dsimp only
    by_cases hq : q = j
    · rw [if_pos hq, if_pos (by omega), hq]
    · rw [if_neg hq]
      by_cases hq2 : q < j
      · rw [if_pos hq2, if_pos (by omega)]
      · rw [if_neg hq2, if_neg (by omega)])
  have e0 : pI (sI (sI σ 96 0 28 (nI (lw R))) 96 0 29 4095) 3497 0 (fun q => if q < 0 then nI (lp R q) else gI σ 3497 0 q) = sI (sI σ 96 0 28 (nI (lw R))) 96 0 29 4095 := by
    have : (fun q => if q < 0 then nI (lp R q) else gI σ 3497 0 q) = gI (sI (sI σ 96 0 28 (nI (lw R))) 96 0 29 4095) 3497 0 := by
      funext q
      rw [if_neg (by omega), gI_sIn (by decide), gI_sIn (by decide)]
    rw [this, pI_id]
  have hl : Vv 262 0 19 [some (vR 96 0), some (vI (nI 0))] [] (pI (sI (sI σ 96 0 28 (nI (lw R))) 96 0 29 4095) 3497 0 (fun q => if q < 0 then nI (lp R q) else gI σ 3497 0 q)) = Vv 262 0 19 [some (vR 96 0), some (vI (nI (nL R)))] [] (pI (sI (sI σ 96 0 28 (nI (lw R))) 96 0 29 4095) 3497 0 (fun q => if q < nL R then nI (lp R q) else gI σ 3497 0 q)) := hl
  rw [e0] at hl
  have h1 : H0 (pI (sI (sI σ 96 0 28 (nI (lw R))) 96 0 29 4095) 3497 0 (fun q => if q < nL R then nI (lp R q) else gI σ 3497 0 q)) R := hb0.p (fun _ => rfl)
  have hF1 : Fr lyS σ (pI (sI (sI σ 96 0 28 (nI (lw R))) 96 0 29 4095) 3497 0 (fun q => if q < nL R then nI (lp R q) else gI σ 3497 0 q)) := ((Fr.rf.sI rfl).sI rfl).pI (fun _ => rfl)
  have g1 : gI (pI (sI (sI σ 96 0 28 (nI (lw R))) 96 0 29 4095) 3497 0 (fun q => if q < nL R then nI (lp R q) else gI σ 3497 0 q)) 96 0 28 = nI (lw R) := by
    rw [gI_pIn (by decide), gI_sIj (by decide), gI_sIs]
  have g2 : gI (pI (sI (sI σ 96 0 28 (nI (lw R))) 96 0 29 4095) 3497 0 (fun q => if q < nL R then nI (lp R q) else gI σ 3497 0 q)) 96 0 29 = nI (bn (fun _ => true) 12) := by
    rw [gI_pIn (by decide), gI_sIs, bn_all]
    rfl
  have g3 : ∀ l, l < nL R → gI (pI (sI (sI σ 96 0 28 (nI (lw R))) 96 0 29 4095) 3497 0 (fun q => if q < nL R then nI (lp R q) else gI σ 3497 0 q)) 3497 0 l = nI (lp R l) := fun l hl => by
    rw [gI_pIs, if_pos hl]
  have hc : Cc 262 0 [vR 96 0] σ = cV (Cc 259 0 [vR 96 0] (pI (sI (sI σ 96 0 28 (nI (lw R))) 96 0 29 4095) 3497 0 (fun q => if q < nL R then nI (lp R q) else gI σ 3497 0 q))) (fun σ5 => cV (Cc 258 0 [vR 96 0] σ5) (fun σ6 => some (none, σ6))) := by
    rw [c_M_lays, ixh1, h.law]
    refine Eq.trans hl ?_
    rw [v_M_lays_19, cI_L h1, if_neg (nI_nlt (Nat.le_refl _) (by omega))]
  generalize pI (sI (sI σ 96 0 28 (nI (lw R))) 96 0 29 4095) 3497 0 (fun q => if q < nL R then nI (lp R q) else gI σ 3497 0 q) = σ1 at h1 hF1 g1 g2 g3 hc
  rw [s_laysFlues h1, cV_s, s_laysSees (h1.s rfl) (gI_sIs _ _ _ _ _), cV_s] at hc
  refine ⟨_, hc, (hF1.sI rfl).pI (fun _ => rfl), (h1.s rfl).p (fun _ => rfl), ?_, ?_, ?_, ?_, ?_⟩
  · rw [gI_pIn (by decide), gI_sIj (by decide), g1]
  · rw [gI_pIn (by decide), gI_sIj (by decide), g2]
  · rw [gI_pIn (by decide), gI_sIs]
  · intro l hl
    rw [gI_pIn (by decide), gI_sIn (by decide), g3 l hl]
  · intro p hp
    rw [gI_pIs]
    unfold seR
    rw [if_pos hp]
theorem s_lays {σ : St} {R : RF} (h : H0 σ R) : ∃ σ', Cc 262 0 [vR 96 0] σ = some (none, σ') ∧ Fr scM σ σ' ∧ H0 σ' R ∧ gI σ' 96 0 28 = nI (lw R) ∧ gI σ' 96 0 29 = nI (bn (fun _ => true) 12) ∧ gI σ' 96 0 26 = nI (bn (fal R) (nF R)) ∧ (∀ l, l < nL R → gI σ' 3497 0 l = nI (lp R l)) ∧ SE σ' R (fal R) := by
  obtain ⟨σ1, c1, f1, r1⟩ := s_laysF h
  exact ⟨σ1, c1, f1.up (fun t i j hq => by
    cases hz : lyS t i j
    · rfl
    · rw [ly_sc t i j hz] at hq
      cases hq), r1⟩
/-- the years as the reference has told them -/
def YV (σ : St) (R : RF) (fl : Nat → Bool) (P : Nat → Nat → Nat) : Prop := H0 σ R ∧ SE σ R fl ∧ AY σ R P (yr R + 1) ∧ ∀ y, VP R (P y)
/-- the years as they are told and acted -/
def P0 (R : RF) : Nat → Nat → Nat := ps R (see R (fal R)) (lw R) (fun _ => true) (lp R)
theorem s_laysNow {σ : St} {R : RF} (h : H0 σ R) : ∃ σ', Cc 271 0 [vR 96 0] σ = some (none, σ') ∧ Fr scM σ σ' ∧ YV σ' R (fal R) (P0 R) := by
  obtain ⟨σ1, c1, f1, h1, w1, m1, _, t1, s1⟩ := s_lays h
  obtain ⟨σ2, c2, f2, a2⟩ := s_runs h1 s1 h.b.2.2.2.2.2.2.2.1 w1 m1 (vp_told h.1) t1
  refine ⟨σ2, ?_, f1.tr (f2.up (fun t i j hq => ?_)), h1.fr f2 ry_sc, fun p hp => (f2.i rfl).trans (s1 p hp), a2, vp_ps h.1 (vp_told h.1) _ _ _⟩
  · rw [c_M_laysNow, c1, cV_s, c2, cV_s]
  · cases hz : ryS t i j
    · rfl
    · rw [ry_sc t i j hz] at hq
      cases hq
/-! what is asked for -/
def inB (a : Int32) (n : Nat) : Bool := decide (0 ≤ a.toInt ∧ a.toInt < n)
def cl (a : Int32) : Nat := a.toNatClampNeg
theorem inB_t {a : Int32} {n : Nat} (hn : n < 2 ^ 31) (h : inB a n = true) : cl a < n ∧ a = nI (cl a) := by
  have h1 : 0 ≤ a.toInt ∧ a.toInt < n := of_decide_eq_true h
  obtain ⟨j, h2, h3⟩ := nI_of (x := a) (fun z => by
    have := Int32.lt_iff_toInt_lt.mp z
    have e : (0 : Int32).toInt = 0 := rfl
    omega)
  unfold cl
  rw [h3, nI_clamp h2]
  rw [h3, nI_toInt h2] at h1
  exact ⟨by omega, rfl⟩
theorem inB_n {k n : Nat} (hk : k < n) (hn : n < 2 ^ 31) : inB (nI k) n = true := by
  unfold inB
  rw [nI_toInt (by omega)]
  exact decide_eq_true (by omega)
theorem cl_n {k : Nat} (hk : k < 2 ^ 31) : cl (nI k) = k := nI_clamp hk
theorem inB_64 (a : Int32) {n : Nat} (hn : n < 2 ^ 30) : decide ((0 : Int64) ≤ a.toInt64 ∧ a.toInt64 ≤ (nI n).toInt64 - 1) = inB a n := by
  unfold inB
  apply decide_eq_decide.mpr
  have h1 := Int32.toInt_lt a
  have h2 := Int32.le_toInt a
  have e : (0 : Int64).toInt = 0 := rfl
  have e2 : ((nI n).toInt64 - 1).toInt = (n : Int) - 1 := by
    rw [Int64.toInt_sub, Int32.toInt_toInt64, nI_toInt (by omega)]
    show ((n : Int) - 1).bmod _ = _
    exact Int.bmod_eq_of_le (by omega) (by omega)
  rw [Int64.le_iff_toInt_le, Int64.le_iff_toInt_le, Int32.toInt_toInt64, e, e2]
  omega
theorem inB_le (a : Int32) {n : Nat} (hn : n < 2 ^ 30) : decide ((0 : Int64) ≤ a.toInt64 ∧ a.toInt64 ≤ (nI n).toInt64) = inB a (n + 1) := by
  unfold inB
  apply decide_eq_decide.mpr
  have e : (0 : Int64).toInt = 0 := rfl
  rw [Int64.le_iff_toInt_le, Int64.le_iff_toInt_le, Int32.toInt_toInt64, Int32.toInt_toInt64, e, nI_toInt (by omega)]
  omega
theorem inB_k (a : Int32) (k : Int64) (n : Nat) (hk : k.toInt = n) : decide ((0 : Int64) ≤ a.toInt64 ∧ a.toInt64 ≤ k) = inB a (n + 1) := by
  unfold inB
  apply decide_eq_decide.mpr
  have e : (0 : Int64).toInt = 0 := rfl
  rw [Int64.le_iff_toInt_le, Int64.le_iff_toInt_le, Int32.toInt_toInt64, e, hk]
  omega
theorem r_isMan {σ : St} {R : RF} (h : H0 σ R) (a : Int32) : Cc 247 0 [vR 96 0, vI a] σ = some (some (vI (tv (inB a (nL R)))), σ) := by
  have hbb := h.b
  rw [s_isMan, h.L, inB_64 a (by omega)]
theorem r_isPlace {σ : St} {R : RF} (h : H0 σ R) (a : Int32) : Cc 244 0 [vR 96 0, vL a.toInt64] σ = some (some (vI (tv (inB a (nP R)))), σ) := by
  have hbb := h.b
  rw [s_isPlace, h.P, inB_64 a (by omega)]
theorem r_isMark {σ : St} {R : RF} (h : H0 σ R) (a : Int32) : Cc 245 0 [vR 96 0, vL a.toInt64] σ = some (some (vI (tv (inB a (nM R)))), σ) := by
  have hbb := h.b
  rw [s_isMark, h.M, inB_64 a (by omega)]
theorem r_isFlue {σ : St} {R : RF} (h : H0 σ R) (a : Int32) : Cc 246 0 [vR 96 0, vI a] σ = some (some (vI (tv (inB a (nF R)))), σ) := by
  have hbb := h.b
  rw [c_M_isFlue, ixh5, s_in, cI_s, retZ_tv, h.F, inB_64 a (by omega)]
theorem r_isRoof {σ : St} {R : RF} (h : H0 σ R) : Cc 239 0 [vR 96 0] σ = some (some (vI (tv (decide (0 < nN R)))), σ) := by
  have hbb := h.b
  rw [s_isRoof, h.N]
  have e : decide ((0 : Int32) < nI (nN R)) = decide (0 < nN R) := decide_eq_decide.mpr (nI_ltI (a := 0) (by omega) (by omega))
  rw [e]
def yB (R : RF) (a : Int32) : Bool := decide (0 < nN R) && inB a (yr R + 1)
theorem r_isYear {σ : St} {R : RF} (h : H0 σ R) (a : Int32) : Cc 248 0 [vR 96 0, vL a.toInt64] σ = some (some (vI (tv (yB R a))), σ) := by
  have hbb := h.b
  rw [c_M_isYear, r_isRoof h, cI_s, tv_ite, cI_Y h, s_in, cI_s, tv_ite, inB_le a (by omega), retZ_0, retZ_1]
  unfold yB
  cases decide (0 < nN R) <;> cases inB a (yr R + 1) <;> rfl
theorem r_isAhead {σ : St} {R : RF} (h : H0 σ R) (a : Int32) : Cc 249 0 [vR 96 0, vI a] σ = some (some (vI (tv (inB a (yr R)))), σ) := by
  have hbb := h.b
  rw [c_M_isAhead, cI_Y h, s_in, cI_s, retZ_tv, inB_64 a (by omega)]
theorem r_areTwo {σ : St} {R : RF} (h : H0 σ R) (a b : Int32) : Cc 250 0 [vR 96 0, vI a, vI b] σ = some (some (vI (tv (inB a (nL R) && inB b (nL R) && !decide (a = b)))), σ) := by
  rw [c_M_areTwo, r_isMan h, cI_s, tv_ite, r_isMan h, cI_s, tv_ite, retZ_0, retZ_1]
  by_cases hz : a = b
  · rw [if_pos hz, decide_eq_true hz]
    cases inB a (nL R) <;> cases inB b (nL R) <;> rfl
  · rw [if_neg hz, decide_eq_false hz]
    cases inB a (nL R) <;> cases inB b (nL R) <;> rfl
theorem r_isHalf (σ : St) (a : Int32) : Cc 251 0 [vI a] σ = some (some (vI (tv (inB a 2))), σ) := by
  rw [s_isHalf, inB_k a 1 1 rfl]
theorem r_isSlot (σ : St) (a : Int32) : Cc 205 0 [vI a] σ = some (some (vI (tv (inB a 4))), σ) := by
  rw [s_isSlot, inB_k a 3 3 rfl]
/-! joy -/
def jy (R : RF) (s : Nat → Nat → Bool) (P : Nat → Nat → Nat) (l y : Nat) : Nat := match y with
  | 0 => wth R (s (P 0 l))
  | y' + 1 => wth R (fun m => s (P (y' + 1) l) m && !s (P y' l) m)
def life (R : RF) (s : Nat → Nat → Bool) (P : Nat → Nat → Nat) (l : Nat) : Nat := sm (jy R s P l) (yr R + 1)
def joyA (R : RF) (s : Nat → Nat → Bool) (P : Nat → Nat → Nat) : Nat := sm (life R s P) (nL R)
def joyY (R : RF) (s : Nat → Nat → Bool) (P : Nat → Nat → Nat) (y : Nat) : Nat := sm (fun l => jy R s P l y) (nL R)
theorem jy_le {R : RF} (h : WF R) (s : Nat → Nat → Bool) (P : Nat → Nat → Nat) (l y : Nat) : jy R s P l y ≤ 693 := by
  cases y
  · exact wth_le h _
  · exact wth_le h _
theorem life_le {R : RF} (h : WF R) (s : Nat → Nat → Bool) (P : Nat → Nat → Nat) (l : Nat) : life R s P l ≤ 9009 := by
  have h1 := sm_le (f := jy R s P l) (c := 693) (n := yr R + 1) (fun k _ => jy_le h s P l k)
  have h2 : yr R ≤ 12 := h.1.2.2.2.2.2.2.1
  have h3 : life R s P l ≤ 693 * (yr R + 1) := h1
  omega
theorem joyA_le {R : RF} (h : WF R) (s : Nat → Nat → Bool) (P : Nat → Nat → Nat) : joyA R s P ≤ 54054 := by
  have h1 := sm_le (f := life R s P) (c := 9009) (n := nL R) (fun k _ => life_le h s P k)
  have h2 : nL R ≤ 6 := h.1.2.2.2.2.1
  have h3 : joyA R s P ≤ 9009 * nL R := h1
  omega
theorem joyY_le {R : RF} (h : WF R) (s : Nat → Nat → Bool) (P : Nat → Nat → Nat) (y : Nat) : joyY R s P y ≤ 4158 := by
  have h1 := sm_le (f := fun l => jy R s P l y) (c := 693) (n := nL R) (fun k _ => jy_le h s P k y)
  have h2 : nL R ≤ 6 := h.1.2.2.2.2.1
  have h3 : joyY R s P y ≤ 693 * nL R := h1
  omega
theorem s_seesAt {σ : St} {R : RF} {fl : Nat → Bool} {P : Nat → Nat → Nat} (v : YV σ R fl P) {l y : Nat} (hl : l < nL R) (hy : y ≤ yr R) : Cc 272 0 [vR 96 0, vI (nI l), vI (nI y)] σ = some (some (vI (nI (bn (see R fl (P y l)) (nM R)))), σ) := by
  have hbb := v.1.b
  have hp := (v.2.2.2 y).1 l hl
  rw [c_M_seesAt, six_n, nI_add, ix_nI (by omega) (by omega), v.2.2.1 y (by omega) l hl, ix_nI (by omega) (by omega), v.2.1 _ hp]
theorem s_joyOf {σ : St} {R : RF} {fl : Nat → Bool} {P : Nat → Nat → Nat} (v : YV σ R fl P) {l y : Nat} (hl : l < nL R) (hy : y ≤ yr R) : Cc 273 0 [vR 96 0, vI (nI l), vI (nI y)] σ = some (some (vI (nI (jy R (see R fl) P l y))), σ) := by
  have hbb := v.1.b
  rw [c_M_joyOf]
  cases y with
  | zero =>
    rw [if_pos q_0]
    have := s_seesAt v hl (y := 0) (by omega)
    rw [q_0] at this
    rw [this, cI_s, s_worthW v.1, cI_s]
    rfl
  | succ y =>
    rw [if_neg (nI_ne0 (by omega) (by omega)), s_seesAt v hl hy, cI_s, nI_pred, s_seesAt v hl (by omega), cI_s, bn_anot, s_worthW v.1, cI_s]
    rfl
theorem s_lifeOf {σ : St} {R : RF} {fl : Nat → Bool} {P : Nat → Nat → Nat} (v : YV σ R fl P) {l : Nat} (hl : l < nL R) : Cc 274 0 [vR 96 0, vI (nI l)] σ = some (some (vI (nI (life R (see R fl) P l))), σ) := by
  have hbb := v.1.b
  rw [c_M_lifeOf]
  have hs := lpU (V := fun j => Vv 274 0 4 [some (vR 96 0), some (vI (nI l)), some (vI (nI (sm (jy R (see R fl) P l) j))), some (vI (nI j))] [] σ) (n := yr R + 1) (fun j hj => by
    show Vv _ _ _ _ _ _ = Vv _ _ _ _ _ _
    rw [v_M_lifeOf_4, cI_Y v.1, if_pos (nI_le (show j ≤ yr R by omega) (by omega)), s_joyOf v hl (by omega), cI_s, nI_add, nI_1]
    rfl)
  refine Eq.trans hs ?_
  show Vv _ _ _ _ _ _ = _
  rw [v_M_lifeOf_4, cI_Y v.1, if_neg (nI_ge (by omega) (by omega))]
  rfl
theorem s_joyAll {σ : St} {R : RF} {fl : Nat → Bool} {P : Nat → Nat → Nat} (v : YV σ R fl P) : Cc 275 0 [vR 96 0] σ = some (some (vI (nI (joyA R (see R fl) P))), σ) := by
  have hbb := v.1.b
  rw [c_M_joyAll]
  have hs := lpU (V := fun j => Vv 275 0 4 [some (vR 96 0), some (vI (nI (sm (life R (see R fl) P) j))), some (vI (nI j))] [] σ) (n := nL R) (fun j hj => by
    show Vv _ _ _ _ _ _ = Vv _ _ _ _ _ _
    rw [v_M_joyAll_4, cI_L v.1, if_pos (nI_lt hj (by omega)), s_lifeOf v hj, cI_s, nI_add, nI_1]
    rfl)
  refine Eq.trans hs ?_
  show Vv _ _ _ _ _ _ = _
  rw [v_M_joyAll_4, cI_L v.1, if_neg (nI_nlt (Nat.le_refl _) (by omega))]
  rfl
theorem s_joyAt {σ : St} {R : RF} {fl : Nat → Bool} {P : Nat → Nat → Nat} (v : YV σ R fl P) {y : Nat} (hy : y ≤ yr R) : Cc 304 0 [vR 96 0, vI (nI y)] σ = some (some (vI (nI (joyY R (see R fl) P y))), σ) := by
  have hbb := v.1.b
  rw [c_M_joyAt]
  have hs := lpU (V := fun j => Vv 304 0 4 [some (vR 96 0), some (vI (nI y)), some (vI (nI (sm (fun l => jy R (see R fl) P l y) j))), some (vI (nI j))] [] σ) (n := nL R) (fun j hj => by
    show Vv _ _ _ _ _ _ = Vv _ _ _ _ _ _
    rw [v_M_joyAt_4, cI_L v.1, if_pos (nI_lt hj (by omega)), s_joyOf v hj hy, cI_s, nI_add, nI_1]
    rfl)
  refine Eq.trans hs ?_
  show Vv _ _ _ _ _ _ = _
  rw [v_M_joyAt_4, cI_L v.1, if_neg (nI_nlt (Nat.le_refl _) (by omega))]
  rfl
theorem s_gladP {σ : St} {R : RF} {fl : Nat → Bool} {P : Nat → Nat → Nat} (v : YV σ R fl P) {y : Nat} (hy : y ≤ yr R) : Cc 276 0 [vR 96 0, vI (nI y)] σ = some (some (vI (nI (bn (fun l => see R fl (P y l) (lh R l)) (nL R)))), σ) := by
  have hbb := v.1.b
  rw [c_M_gladAt]
  have hs := lpU (V := fun j => Vv 276 0 4 [some (vR 96 0), some (vI (nI y)), some (vI (nI (bn (fun l => see R fl (P y l) (lh R l)) j))), some (vI (nI j))] [] σ) (n := nL R) (fun j hj => by
    show Vv _ _ _ _ _ _ = Vv _ _ _ _ _ _
    have hp := (v.2.2.2 y).1 j hj
    rw [v_M_gladAt_4, cI_L v.1, if_pos (nI_lt hj (by omega)), six_n, nI_add, ix_nI (by omega) (by omega), v.2.2.1 y (by omega) j hj, s_isGlad v.1 v.2.1 hj hp, cI_s, tv_ite, nI_1]
    cases hq : see R fl (P y j) (lh R j)
    · rw [cond_false, bn_or0 (P := fun l => see R fl (P y l) (lh R l)) hq]
      have e : ∀ x : Nat, nI x ||| (0 : Int32) = nI x := fun x => (nI_or x 0).trans (by rw [Nat.or_zero])
      rw [e]
    · rw [cond_true, bn_or1 (P := fun l => see R fl (P y l) (lh R l)) (by omega) hq])
  refine Eq.trans hs ?_
  show Vv _ _ _ _ _ _ = _
  rw [v_M_gladAt_4, cI_L v.1, if_neg (nI_nlt (Nat.le_refl _) (by omega))]
theorem s_drillOf {σ : St} {R : RF} {fl : Nat → Bool} {P : Nat → Nat → Nat} (v : YV σ R fl P) {l : Nat} (hl : l < nL R) : Cc 277 0 [vR 96 0, vI (nI l)] σ = some (some (vI (fI (fun y => see R fl (P y l) (lh R l)) (yr R + 1))), σ) := by
  have hbb := v.1.b
  rw [c_M_drillOf]
  have hs := lpF0 (V := fun j => Vv 277 0 2 [some (vR 96 0), some (vI (nI l)), some (vI (nI j))] [] σ) (P := fun y => see R fl (P y l) (lh R l)) (r := fun j => some (some (vI (nI j)), σ)) (yr R + 1) (fun j hj => by
    show Vv _ _ _ _ _ _ = _
    rw [v_M_drillOf_2, cI_Y v.1, if_pos (nI_le (show j ≤ yr R by omega) (by omega)), s_gladP v (by omega), cI_s, s_isBit, cI_s, bit_in (by omega) hl, tv_ite, nI_1])
  refine Eq.trans hs ?_
  have he : Vv 277 0 2 [some (vR 96 0), some (vI (nI l)), some (vI (nI (yr R + 1)))] [] σ = some (some (vI (-1)), σ) := by
    rw [v_M_drillOf_2, cI_Y v.1, if_neg (nI_ge (by omega) (by omega))]
  show cond _ _ (Vv _ _ _ _ _ _) = _
  rw [he]
  unfold fI
  cases ex (fun y => see R fl (P y l) (lh R l)) (yr R + 1) <;> rfl
