/-! THE REFERENCE'S ANSWERS: laws, the flue to fell, the game -/
/-- a loop that writes what each call writes anew -/
theorem lpH {R : RF} {V : Nat → St → Option AR} {n : Nat} (k : Nat) (hk : k ≤ n) (h : ∀ j σ, k ≤ j → j < n → H0 σ R → ∃ σ', V j σ = V (j + 1) σ' ∧ Fr scM σ σ') : ∀ σ, H0 σ R → ∃ σ', V k σ = V n σ' ∧ Fr scM σ σ' := by
  have : ∀ d k, k + d = n → (∀ j σ, k ≤ j → j < n → H0 σ R → ∃ σ', V j σ = V (j + 1) σ' ∧ Fr scM σ σ') → ∀ σ, H0 σ R → ∃ σ', V k σ = V n σ' ∧ Fr scM σ σ' := by
    intro d
    induction d with
    | zero =>
      intro k hk _ σ _
      have : k = n := by omega
      subst this
      exact ⟨σ, rfl, Fr.rf⟩
    | succ d ih =>
      intro k hk h σ hσ
      obtain ⟨σ1, e1, f1⟩ := h k σ (Nat.le_refl _) (by omega) hσ
      obtain ⟨σ2, e2, f2⟩ := ih (k + 1) (by omega) (fun j σ hj => h j σ (by omega)) σ1 (hσ.fr f1 (fun _ _ _ hq => hq))
      exact ⟨σ2, e1.trans e2, f1.tr f2⟩
  exact this (n - k) k (by omega) h
theorem H0.f {σ σ' : St} {R : RF} (h : H0 σ R) (hf : Fr scM σ σ') : H0 σ' R := h.fr hf (fun _ _ _ hq => hq)
theorem ry_up {σ σ' : St} (h : Fr ryS σ σ') : Fr scM σ σ' := h.up (fun t i j hq => by
  cases hz : ryS t i j
  · rfl
  · rw [ry_sc t i j hz] at hq
    cases hq)
/-- the years by a law -/
def PB (R : RF) (w : Nat) : Nat → Nat → Nat := ps R (see R (fal R)) w (fun _ => true) (lp R)
theorem s_joyBy {σ : St} {R : RF} (h : H0 σ R) {w : Nat} (hw : w ≤ 3) : ∃ σ', Cc 344 0 [vR 96 0, vI (nI w)] σ = some (some (vI (nI (joyA R (see R (fal R)) (PB R w)))), σ') ∧ Fr scM σ σ' ∧ YV σ' R (fal R) (PB R w) := by
  obtain ⟨σ1, c1, f1, h1, w1, m1, _, t1, s1⟩ := s_lays h
  have h1' : H0 (sI σ1 96 0 28 (nI w)) R := h1.s rfl
  obtain ⟨σ2, c2, f2, a2⟩ := s_runs h1' (fl := fal R) (fun p hp => (gI_sIn (by decide)).trans (s1 p hp)) hw (gI_sIs _ _ _ _ _) (mg := fun _ => true) ((gI_sIj (by decide)).trans m1) (vp_told h.1) (fun l hl => (gI_sIn (by decide)).trans (t1 l hl))
  have hv : YV σ2 R (fal R) (PB R w) := ⟨h1'.fr f2 ry_sc, fun p hp => (f2.i rfl).trans ((gI_sIn (by decide)).trans (s1 p hp)), a2, vp_ps h.1 (vp_told h.1) _ _ _⟩
  refine ⟨σ2, ?_, (f1.sI rfl).tr (ry_up f2), hv⟩
  rw [c_M_joyBy, c1, cV_s, c2, cV_s, s_joyAll hv, cI_s]
theorem m_by {σ : St} {R : RF} (h : H0 σ R) (a1 : Int32) : RM 346 [vI a1] σ (vI (cond (decide (0 < nN R) && inB a1 4) (nI (joyA R (see R (fal R)) (PB R (cl a1)))) (-2))) := by
  have hbb := h.b
  have h1 := thr_H h
  refine RM_of (by rw [c_M_by, r_isRoof h1, cI_s, tv_ite, s_in, inB_k a1 3 3 rfl, cI_s, tv_ite, cond_and]) (thr_F σ) (fun hq => ?_)
  rw [Bool.and_eq_true] at hq
  obtain ⟨k1, g1, rfl⟩ := inB_e (by omega) hq.2
  obtain ⟨σ3, c3, f3, v3⟩ := s_joyBy h1 (w := k1) (by omega)
  exact ⟨σ3, by rw [c3, cI_s, cl_n (by omega)], f3⟩
/-- the law by which joy is most -/
def lwB (R : RF) : Int32 := oI (am (fun _ => true) (fun b w => decide (joyA R (see R (fal R)) (PB R b) < joyA R (see R (fal R)) (PB R w))) 4)
theorem m_law {σ : St} {R : RF} (h : H0 σ R) : RM 347 [] σ (vI (cond (decide (0 < nN R)) (lwB R) (-2))) := by
  have hbb := h.b
  have h1 := thr_H h
  refine RM_of (by rw [c_M_law, r_isRoof h1, cI_s, tv_ite]) (thr_F σ) (fun hq => ?_)
  obtain ⟨σ3, c3, f3⟩ := lpH (R := R) (V := fun j σ => Vv 347 0 19 [some (vR 96 0), some (vI (oI (am (fun _ => true) (fun b w => decide (joyA R (see R (fal R)) (PB R b) < joyA R (see R (fal R)) (PB R w))) j))), some (vI (nI j))] [] σ) (n := 4) 1 (by omega) (fun j σ j1 j2 hσ => by
    obtain ⟨σ1, c1, f1, v1⟩ := s_joyBy hσ (w := j) (by omega)
    have hne : ∃ b, am (fun _ => true) (fun b w => decide (joyA R (see R (fal R)) (PB R b) < joyA R (see R (fal R)) (PB R w))) j = some b := by
      cases j with
      | zero => omega
      | succ j =>
        rw [am_s]
        cases am (fun _ => true) (fun b w => decide (joyA R (see R (fal R)) (PB R b) < joyA R (see R (fal R)) (PB R w))) j with
        | none => exact ⟨_, rfl⟩
        | some c =>
          show ∃ b, cond _ _ _ = some b
          cases (true && decide (joyA R (see R (fal R)) (PB R c) < joyA R (see R (fal R)) (PB R j)))
          · exact ⟨_, rfl⟩
          · exact ⟨_, rfl⟩
    obtain ⟨b, hb⟩ := hne
    have hbj := (am_in hb).1
    obtain ⟨σ2, c2, f2, v2⟩ := s_joyBy v1.1 (w := b) (by omega)
    refine ⟨σ2, ?_, f1.tr f2⟩
    have w1 := joyA_le h.1 (see R (fal R)) (PB R j)
    have w2 := joyA_le h.1 (see R (fal R)) (PB R b)
    have e4 : nI j < (4 : Int32) := nI_lt (b := 4) j2 (by omega)
    rw [am_s, hb]
    show Vv 347 0 19 [some (vR 96 0), some (vI (nI b)), some (vI (nI j))] [] σ = Vv 347 0 19 [some (vR 96 0), some (vI (oI (cond (true && decide (joyA R (see R (fal R)) (PB R b) < joyA R (see R (fal R)) (PB R j))) (some j) (some b)))), some (vI (nI (j + 1)))] [] σ2
    rw [v_M_law_19, if_pos e4, c1, cI_s, c2, cI_s, nI_1, Bool.true_and, ite_n]
    simp only [nI_leI (show joyA R (see R (fal R)) (PB R j) < 2 ^ 31 by omega) (show joyA R (see R (fal R)) (PB R b) < 2 ^ 31 by omega)]
    by_cases hz : joyA R (see R (fal R)) (PB R b) < joyA R (see R (fal R)) (PB R j)
    · rw [decide_eq_true hz, decide_eq_false (Nat.not_le.mpr hz)]; rfl
    · rw [decide_eq_false hz, decide_eq_true (Nat.not_lt.mp hz)]; rfl) _ h1
  refine ⟨σ3, ?_, f3⟩
  refine Eq.trans c3 ?_
  show Vv _ _ _ _ _ _ = _
  have e4 : ¬ nI 4 < (4 : Int32) := by decide
  rw [v_M_law_19, if_neg e4]
  rfl
theorem see_congr {R : RF} {fl gl : Nat → Bool} (h : ∀ f, f < nF R → fl f = gl f) : see R fl = see R gl := by
  funext p m
  unfold see
  rw [ex_congr (P := hb R fl p m) (Q := hb R gl p m) (fun f hf => by unfold hb; rw [h f hf])]
/-- joy without a flue -/
def fl1 (R : RF) (f : Nat) : Nat → Bool := fun g => fal R g || decide (g = f)
def PF (R : RF) (f : Nat) : Nat → Nat → Nat := ps R (see R (fl1 R f)) (lw R) (fun _ => true) (lp R)
def JF (R : RF) (f : Nat) : Nat := joyA R (see R (fl1 R f)) (PF R f)
/-- the flue to fell, and the most joy -/
def fe (R : RF) : Nat → Int32 × Nat
  | 0 => (-1, joyA R (see R (fal R)) (P0 R))
  | n + 1 => cond (decide (JF R n ≤ (fe R n).2)) (fe R n) (nI n, JF R n)
theorem fe_le {R : RF} (h : WF R) : ∀ n, (fe R n).2 ≤ 54054
  | 0 => joyA_le h _ _
  | n + 1 => by
    have ih := fe_le h n
    show (cond (decide (JF R n ≤ (fe R n).2)) (fe R n) (nI n, JF R n)).2 ≤ _
    cases decide (JF R n ≤ (fe R n).2)
    · exact joyA_le h _ _
    · exact ih
theorem m_fell {σ : St} {R : RF} (h : H0 σ R) : RM 348 [] σ (vI (cond (decide (0 < nN R)) (fe R (nF R)).1 (-2))) := by
  have hbb := h.b
  have h1 := thr_H h
  obtain ⟨σ0, c0, f0, v0⟩ := s_laysNow h1
  refine RM_of (by rw [c_M_fell, r_isRoof h1, cI_s, tv_ite, c0, cV_s, s_joyAll v0, cI_s]) (thr_F σ) (fun hq => ?_)
  obtain ⟨σ3, c3, f3⟩ := lpH (R := R) (V := fun j σ => Vv 348 0 28 [some (vR 96 0), some (vI (fe R j).1), some (vI (nI (fe R j).2)), some (vI (nI j))] [] σ) (n := nF R) 0 (by omega) (fun j σ _ hj hσ => by
    obtain ⟨σ1, c1, f1, h1, w1, m1, d1, t1, s1⟩ := s_lays hσ
    have h2 : H0 (sI σ1 96 0 26 (nI (bn (fl1 R j) (nF R)))) R := h1.s rfl
    have hd : nI (bn (fal R) (nF R)) ||| ((1 : Int32) <<< (nI j &&& 31)) = nI (bn (fl1 R j) (nF R)) := bn_orK (by omega) hj
    have c2 := s_laysSees h2 (fl := fl1 R j) (gI_sIs _ _ _ _ _)
    have h3 : H0 (pI (sI σ1 96 0 26 (nI (bn (fl1 R j) (nF R)))) 3489 0 (seR (sI σ1 96 0 26 (nI (bn (fl1 R j) (nF R)))) R (fl1 R j) (nP R))) R := h2.p (fun _ => rfl)
    have s3 : SE (pI (sI σ1 96 0 26 (nI (bn (fl1 R j) (nF R)))) 3489 0 (seR (sI σ1 96 0 26 (nI (bn (fl1 R j) (nF R)))) R (fl1 R j) (nP R))) R (fl1 R j) := fun p hp => by
      rw [gI_pIs]
      unfold seR
      rw [if_pos hp]
    obtain ⟨σ4, c4, f4, a4⟩ := s_runs h3 s3 (law := lw R) (by omega) (by rw [gI_pIn (by decide), gI_sIj (by decide), w1]) (mg := fun _ => true) (by rw [gI_pIn (by decide), gI_sIj (by decide), m1]) (vp_told h.1) (fun l hl => by rw [gI_pIn (by decide), gI_sIn (by decide), t1 l hl])
    have v4 : YV σ4 R (fl1 R j) (PF R j) := ⟨h3.fr f4 ry_sc, fun p hp => (f4.i rfl).trans (s3 p hp), a4, vp_ps h.1 (vp_told h.1) _ _ _⟩
    have w1' := joyA_le h.1 (see R (fl1 R j)) (PF R j)
    have w2' := fe_le h.1 j
    have ej : joyA R (see R (fl1 R j)) (PF R j) = JF R j := rfl
    rw [ej] at w1'
    refine ⟨σ4, ?_, ((f1.sI rfl).pI (fun _ => rfl)).tr (ry_up f4)⟩
    show Vv _ _ _ _ _ _ = Vv 348 0 28 [some (vR 96 0), some (vI (cond (decide (JF R j ≤ (fe R j).2)) (fe R j) (nI j, JF R j)).1), some (vI (nI (cond (decide (JF R j ≤ (fe R j).2)) (fe R j) (nI j, JF R j)).2)), some (vI (nI (j + 1)))] [] σ4
    rw [v_M_fell_28, ixh5, hσ.F, if_pos (nI_lt hj (by omega)), c1, cV_s, d1, hd, c2, cV_s, c4, cV_s, s_joyAll v4, cI_s, s_joyAll v4, cI_s, nI_1, ej, ite_n]
    simp only [nI_leI (show JF R j < 2 ^ 31 by omega) (show (fe R j).2 < 2 ^ 31 by omega)]
    cases decide (JF R j ≤ (fe R j).2) <;> rfl) σ0 v0.1
  refine ⟨σ3, ?_, f0.tr f3⟩
  refine Eq.trans c3 ?_
  have h3 := v0.1.f f3
  show Vv _ _ _ _ _ _ = _
  rw [v_M_fell_28, ixh5, h3.F, if_neg (nI_nlt (Nat.le_refl _) (by omega))]
/-! the game -/
/-- from where one sees who turns, or not -/
def tnP (R : RF) (l x : Nat) : Nat := (lp R l + x) % nP R
/-- what the first of two gets -/
def gt (R : RF) (s : Nat → Nat → Bool) (a b x y : Nat) : Nat := wth R (fun m => s (tnP R a x) m && !s (tnP R b y) m) + wth R (fun m => s (tnP R a x) m && s (tnP R b y) m) / 2
theorem gt_le {R : RF} (h : WF R) (s : Nat → Nat → Bool) (a b x y : Nat) : gt R s a b x y ≤ 1386 := by
  have h1 := wth_le h (fun m => s (tnP R a x) m && !s (tnP R b y) m)
  have h2 := wth_le h (fun m => s (tnP R a x) m && s (tnP R b y) m)
  unfold gt
  omega
theorem wth_congr {R : RF} {P Q : Nat → Bool} (h : ∀ m, m < nM R → P m = Q m) : wth R P = wth R Q := sm_congr (fun m hm => by rw [h m hm])
theorem s_turnedTo {σ : St} {R : RF} (h : H0 σ R) {fl : Nat → Bool} (hs : SE σ R fl) {l x : Nat} (hl : l < nL R) (hx : x ≤ 1) : Cc 349 0 [vR 96 0, vI (nI l), vI (nI x)] σ = some (some (vI (nI (bn (see R fl (tnP R l x)) (nM R)))), σ) := by
  have hbb := h.b
  have hp := (h.1.2.2.2.2.2.2.1 l hl).1
  have hm : (lp R l + x) % nP R < nP R := Nat.mod_lt _ (by omega)
  rw [c_M_turnedTo, two_n, ix_nI (by omega) (by omega), cI_P h, if_neg (nI_ne0 (by omega) (by omega)), h.lp hl, nI_add, pk_rem (by omega) (by omega) (by omega), ix_nI (by omega) (by omega), hs _ hm]
  rfl
theorem two_ne : ¬ (2 : Int32) = 0 := by decide
theorem div2 {a : Nat} (h : a < 2 ^ 31) : nI a / (2 : Int32) = nI (a / 2) := pk_div (d := 2) h (by omega) (by omega)
theorem s_getsA {σ : St} {R : RF} (h : H0 σ R) {a b x y : Nat} (ha : a < nL R) (hb : b < nL R) (hx : x ≤ 1) (hy : y ≤ 1) : ∃ σ', Cc 350 0 [vR 96 0, vI (nI a), vI (nI a), vI (nI b), vI (nI x), vI (nI y)] σ = some (some (vI (nI (gt R (see R (fal R)) a b x y))), σ') ∧ Fr scM σ σ' := by
  obtain ⟨σ1, c1, f1, h1, -, -, -, -, s1⟩ := s_lays h
  refine ⟨σ1, ?_, f1⟩
  have w2 := wth_le h.1 (fun m => see R (fal R) (tnP R a x) m && see R (fal R) (tnP R b y) m)
  rw [c_M_getsBy, c1, cV_s, s_turnedTo h1 s1 ha hx, cI_s, s_turnedTo h1 s1 hb hy, cI_s, if_pos rfl, nI_and, bn_and, bn_anot, s_worthW h1, cI_s, s_worthW h1, cI_s, if_neg two_ne, div2 (by omega), nI_add]
  have e : wth R (fun m => see R (fal R) (tnP R a x) m && !(see R (fal R) (tnP R a x) m && see R (fal R) (tnP R b y) m)) = wth R (fun m => see R (fal R) (tnP R a x) m && !see R (fal R) (tnP R b y) m) := wth_congr (fun m _ => by
    cases see R (fal R) (tnP R a x) m <;> cases see R (fal R) (tnP R b y) m <;> rfl)
  rw [e]
  rfl
theorem s_getsB {σ : St} {R : RF} (h : H0 σ R) {a b x y : Nat} (ha : a < nL R) (hb : b < nL R) (hab : a ≠ b) (hx : x ≤ 1) (hy : y ≤ 1) : ∃ σ', Cc 350 0 [vR 96 0, vI (nI b), vI (nI a), vI (nI b), vI (nI x), vI (nI y)] σ = some (some (vI (nI (gt R (see R (fal R)) b a y x))), σ') ∧ Fr scM σ σ' := by
  have hbb := h.b
  obtain ⟨σ1, c1, f1, h1, -, -, -, -, s1⟩ := s_lays h
  refine ⟨σ1, ?_, f1⟩
  have w2 := wth_le h.1 (fun m => see R (fal R) (tnP R a x) m && see R (fal R) (tnP R b y) m)
  rw [c_M_getsBy, c1, cV_s, s_turnedTo h1 s1 ha hx, cI_s, s_turnedTo h1 s1 hb hy, cI_s, if_neg (fun z => hab ((nI_eq (by omega) (by omega)).mp z).symm), nI_and, bn_and, bn_anot, s_worthW h1, cI_s, s_worthW h1, cI_s, if_neg two_ne, div2 (by omega), nI_add]
  have e : wth R (fun m => see R (fal R) (tnP R b y) m && !(see R (fal R) (tnP R a x) m && see R (fal R) (tnP R b y) m)) = wth R (fun m => see R (fal R) (tnP R b y) m && !see R (fal R) (tnP R a x) m) := wth_congr (fun m _ => by
    cases see R (fal R) (tnP R a x) m <;> cases see R (fal R) (tnP R b y) m <;> rfl)
  have e2 : wth R (fun m => see R (fal R) (tnP R a x) m && see R (fal R) (tnP R b y) m) = wth R (fun m => see R (fal R) (tnP R b y) m && see R (fal R) (tnP R a x) m) := wth_congr (fun m _ => Bool.and_comm _ _)
  rw [e, e2]
  rfl
def twB (R : RF) (a b : Int32) : Bool := inB a (nL R) && inB b (nL R) && !decide (a = b)
theorem m_gets {σ : St} {R : RF} (h : H0 σ R) (a1 a2 a3 a4 : Int32) : RM 352 [vI a1, vI a2, vI a3, vI a4] σ (vI (cond (twB R a1 a2 && inB a3 2 && inB a4 2) (nI (gt R (see R (fal R)) (cl a1) (cl a2) (cl a3) (cl a4))) (-1000))) := by
  have hbb := h.b
  have h1 := thr_H h
  refine RM_of (by rw [c_M_gets, r_areTwo h1, cI_s, tv_ite, r_isHalf, cI_s, tv_ite, r_isHalf, cI_s, tv_ite, cond_and, cond_and]; rfl) (thr_F σ) (fun hq => ?_)
  unfold twB at hq
  simp only [Bool.and_eq_true] at hq
  obtain ⟨k1, g1, rfl⟩ := inB_e (by omega) hq.1.1.1.1
  obtain ⟨k2, g2, rfl⟩ := inB_e (by omega) hq.1.1.1.2
  obtain ⟨k3, g3, rfl⟩ := inB_e (by omega) hq.1.2
  obtain ⟨k4, g4, rfl⟩ := inB_e (by omega) hq.2
  obtain ⟨σ1, c1, f1⟩ := s_getsA h1 g1 g2 (x := k3) (y := k4) (by omega) (by omega)
  exact ⟨σ1, by rw [c1, cI_s, cl_n (by omega), cl_n (by omega), cl_n (by omega), cl_n (by omega)], f1⟩
/-- at rest -/
def rsB (R : RF) (s : Nat → Nat → Bool) (a b k : Nat) : Bool := decide (gt R s a b (1 - k % 2) (k / 2) ≤ gt R s a b (k % 2) (k / 2)) && decide (gt R s b a (1 - k / 2) (k % 2) ≤ gt R s b a (k / 2) (k % 2))
theorem m_rests {σ : St} {R : RF} (h : H0 σ R) (a1 a2 : Int32) : RM 351 [vI a1, vI a2] σ (vI (cond (twB R a1 a2) (nI (bn (rsB R (see R (fal R)) (cl a1) (cl a2)) 4)) (-2))) := by
  have hbb := h.b
  have h1 := thr_H h
  refine RM_of (by rw [c_M_rests, r_areTwo h1, cI_s, tv_ite]; rfl) (thr_F σ) (fun hq => ?_)
  unfold twB at hq
  simp only [Bool.and_eq_true] at hq
  obtain ⟨k1, g1, rfl⟩ := inB_e (by omega) hq.1.1
  obtain ⟨k2, g2, rfl⟩ := inB_e (by omega) hq.1.2
  have hne : k1 ≠ k2 := fun z => by
    have := hq.2
    rw [z] at this
    simp at this
  rw [cl_n (by omega), cl_n (by omega)]
  obtain ⟨σ3, c3, f3⟩ := lpH (R := R) (V := fun j σ => Vv 351 0 22 [some (vR 96 0), some (vI (nI k1)), some (vI (nI k2)), some (vI (nI (bn (rsB R (see R (fal R)) k1 k2) j))), some (vI (nI j)), none, none, none] [] σ) (n := 4) 0 (by omega) (fun j σ _ hj hσ => by
    have e4 : nI j < (4 : Int32) := nI_lt (b := 4) hj (by omega)
    have hx : j % 2 ≤ 1 := by omega
    have hy : j / 2 ≤ 1 := by omega
    have er : nI j - nI j / (2 : Int32) * (2 : Int32) = nI (j % 2) := pk_rem (d := 2) (by omega) (by omega) (by omega)
    have ed : nI j / (2 : Int32) = nI (j / 2) := div2 (by omega)
    have em : ∀ z, z ≤ 1 → (1 : Int32) - nI z = nI (1 - z) := fun z hz => pk_sub (a := 1) hz
    obtain ⟨σ1, c1, f1⟩ := s_getsA hσ g1 g2 (x := 1 - j % 2) (y := j / 2) (by omega) hy
    obtain ⟨σ2, c2, f2⟩ := s_getsA (hσ.f f1) g1 g2 (x := j % 2) (y := j / 2) hx hy
    obtain ⟨σ3, c3, f3⟩ := s_getsB ((hσ.f f1).f f2) g1 g2 hne (x := j % 2) (y := 1 - j / 2) hx (by omega)
    obtain ⟨σ4, c4, f4⟩ := s_getsB (((hσ.f f1).f f2).f f3) g1 g2 hne (x := j % 2) (y := j / 2) hx hy
    have b1 := gt_le h.1 (see R (fal R)) k1 k2 (1 - j % 2) (j / 2)
    have b2 := gt_le h.1 (see R (fal R)) k1 k2 (j % 2) (j / 2)
    have b3 := gt_le h.1 (see R (fal R)) k2 k1 (1 - j / 2) (j % 2)
    have b4 := gt_le h.1 (see R (fal R)) k2 k1 (j / 2) (j % 2)
    have hstep : ∀ τ (z : Int32) (b : Bool), z = tv b → rsB R (see R (fal R)) k1 k2 j = b → Vv 351 0 101 [some (vR 96 0), some (vI (nI k1)), some (vI (nI k2)), some (vI (nI (bn (rsB R (see R (fal R)) k1 k2) j))), some (vI (nI j)), some (vI (nI (j % 2))), some (vI (nI (j / 2))), some (vI z)] [] τ = Vv 351 0 22 [some (vR 96 0), some (vI (nI k1)), some (vI (nI k2)), some (vI (nI (bn (rsB R (see R (fal R)) k1 k2) (j + 1)))), some (vI (nI (j + 1))), none, none, none] [] τ := fun τ z b hz hb => by
      rw [v_M_rests_101, hz, tv_ite, or0, nI_1]
      cases b
      · rw [cond_false, bn_or0 hb]
      · rw [cond_true, bn_or1 (by omega) hb]
    by_cases hle : gt R (see R (fal R)) k1 k2 (1 - j % 2) (j / 2) ≤ gt R (see R (fal R)) k1 k2 (j % 2) (j / 2)
    · refine ⟨σ4, ?_, ((f1.tr f2).tr f3).tr f4⟩
      rw [v_M_rests_22, if_pos e4, if_neg two_ne, if_neg two_ne, er, ed, v_M_rests_40, em _ hx, em _ hy, c1, cI_s, c2, cI_s, if_pos ((nI_leI (by omega) (by omega)).mpr hle), c3, cI_s, c4, cI_s]
      by_cases hle2 : gt R (see R (fal R)) k2 k1 (1 - j / 2) (j % 2) ≤ gt R (see R (fal R)) k2 k1 (j / 2) (j % 2)
      · rw [if_pos ((nI_leI (by omega) (by omega)).mpr hle2)]
        exact hstep σ4 1 true rfl (by unfold rsB; rw [decide_eq_true hle, decide_eq_true hle2]; rfl)
      · rw [if_neg (fun z => hle2 ((nI_leI (by omega) (by omega)).mp z))]
        exact hstep σ4 0 false rfl (by unfold rsB; rw [decide_eq_false hle2, Bool.and_false])
    · refine ⟨σ2, ?_, f1.tr f2⟩
      rw [v_M_rests_22, if_pos e4, if_neg two_ne, if_neg two_ne, er, ed, v_M_rests_40, em _ hx, em _ hy, c1, cI_s, c2, cI_s, if_neg (fun z => hle ((nI_leI (by omega) (by omega)).mp z))]
      exact hstep σ2 0 false rfl (by unfold rsB; rw [decide_eq_false hle, Bool.false_and])) _ h1
  refine ⟨σ3, ?_, f3⟩
  refine Eq.trans c3 ?_
  have e4 : ¬ nI 4 < (4 : Int32) := by decide
  show Vv _ _ _ _ _ _ = _
  rw [v_M_rests_22, if_neg e4]
