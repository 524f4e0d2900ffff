/-! SHIFTS: to a slot's row; who is first -/
theorem goL_d {R : RF} {K : KT} {s : Nat} : ∀ {k j u : Nat}, goL R K s k j u = true → (∀ i, j ≤ i → i < j + k → Nat.testBit u (gof K s i) = false) ∧ ∀ a b, j ≤ a → a < b → b < j + k → gof K s a ≠ gof K s b
  | 0, j, u, _ => ⟨fun i h1 h2 => by omega, fun a b h1 h2 h3 => by omega⟩
  | k + 1, j, u, h => by
    have h : (inL (kc K s j) (nP R) && (!Nat.testBit u (gof K s j) && goL R K s k (j + 1) (u ||| 2 ^ gof K s j))) = true := h
    rw [Bool.and_eq_true, Bool.and_eq_true, Bool.not_eq_true'] at h
    obtain ⟨i1, i2⟩ := goL_d h.2.2
    have i3 : ∀ i, j + 1 ≤ i → i < j + 1 + k → Nat.testBit u (gof K s i) = false ∧ gof K s j ≠ gof K s i := fun i h1 h2 => by
      have := i1 i h1 h2
      rw [Nat.testBit_or, Bool.or_eq_false_iff, Nat.testBit_two_pow] at this
      exact ⟨this.1, of_decide_eq_false this.2⟩
    refine ⟨fun i h1 h2 => ?_, fun a b h1 h2 h3 => ?_⟩
    · by_cases hij : i = j
      · rw [hij]; exact h.2.1
      · exact (i3 i (by omega) (by omega)).1
    · by_cases haj : a = j
      · rw [haj]; exact (i3 b (by omega) (by omega)).2
      · exact i2 a b (by omega) h2 (by omega)
theorem gof_vp {R : RF} (hP : nP R ≤ 6) {K : KT} {s : Nat} (h : goB R K s = true) : VP R (gof K s) := by
  refine ⟨fun l hl => (gof_e hP h hl).1, fun l k hl hk e => ?_⟩
  unfold goB at h
  rw [Bool.and_eq_true] at h
  have hd := (goL_d h.2).2
  rcases Nat.lt_trichotomy l k with hq | hq | hq
  · exact absurd e (hd l k (by omega) hq (by omega))
  · exact hq
  · exact absurd e.symm (hd k l (by omega) hq (by omega))
/-- the row of a slot, as a list -/
def glr (R : RF) (K : KT) (s : Nat) : List Nat := (List.range (nL R)).map (gof K s)
theorem glr_mem {R : RF} (hP : nP R ≤ 6) {K : KT} {s : Nat} (h : goB R K s = true) : glr R K s ∈ rws (nP R) (nL R) 0 := rw_mem (gof_vp hP h)
theorem wn_0 {R : RF} {K : KT} {a1 : Int32} (h : wnR R K a1 = 0) : ∃ s, s < 4 ∧ a1 = nI s ∧ kw K s ≠ 4 ∧ goB R K s = true := by
  unfold wnR at h
  cases hq : inB a1 4 && decide (0 < nN R)
  · rw [hq, cond_false] at h
    exact absurd h (by decide)
  · rw [hq, cond_true] at h
    rw [Bool.and_eq_true] at hq
    obtain ⟨s, hs, rfl⟩ := inB_e (by omega) hq.1
    rw [cl_n (by omega)] at h
    refine ⟨s, hs, rfl, fun z => ?_, ?_⟩
    · rw [decide_eq_true z, cond_true] at h
      exact absurd h (by decide)
    · cases hg : goB R K s
      · rw [hg] at h
        cases hz : decide (kw K s = 4)
        · rw [hz, cond_false, cond_false] at h; exact absurd h (by decide)
        · rw [hz, cond_true] at h; exact absurd h (by decide)
      · rfl
theorem goB_n {R : RF} {K : KT} {s : Nat} (h : goB R K s = true) : kn K s = nL R := by
  unfold goB at h
  rw [Bool.and_eq_true] at h
  exact of_decide_eq_true h.1
theorem dsn_ee {e e' : Int32} {r : List Nat} : ∀ {v : VS}, v.any (fun x => decide (x.1 = r)) = true → dsn e r v = dsn e' r v
  | [], h => by cases h
  | x :: v, h => by
    show (if x.1 = r then nI x.2 else dsn e r v) = (if x.1 = r then nI x.2 else dsn e' r v)
    by_cases h1 : x.1 = r
    · rw [if_pos h1, if_pos h1]
    · rw [if_neg h1, if_neg h1]
      rw [List.any_cons, decide_eq_false h1, Bool.false_or] at h
      exact dsn_ee h
/-- a row is visited, so far away, or it is not -/
theorem dsn_or {R : RF} {v : VS} (hv : BV R v 1000) (r : List Nat) : (dsn 100000 r v = 100000 ∧ dsn (-1) r v = -1) ∨ ∃ m, m ≤ 1000 ∧ dsn 100000 r v = nI m ∧ dsn (-1) r v = nI m := by
  cases hb : v.any (fun x => decide (x.1 = r))
  · exact Or.inl ⟨dsn_no hb, dsn_no hb⟩
  · obtain ⟨x, hx, _, e1⟩ := dsn_yes (e := 100000) hb
    exact Or.inr ⟨x.2, (hv.1 x hx).2, e1, (dsn_ee hb).trans e1⟩
theorem dsn_cmp {R : RF} {v : VS} (hv : BV R v 1000) (r : List Nat) {m : Nat} (hm : m ≤ 1000) : decide (dsn 100000 r v = nI m) = decide (dsn (-1) r v = nI m) := by
  rcases dsn_or hv r with ⟨e1, e2⟩ | ⟨k, hk, e1, e2⟩
  · rw [e1, e2]
    have h1 : ¬ (100000 : Int32) = nI m := fun z => by
      have := (nI_eq (a := 100000) (b := m) (by omega) (by omega)).mp z
      omega
    have h2 : ¬ (-1 : Int32) = nI m := fun z => nn1 (by omega) z.symm
    rw [decide_eq_false h1, decide_eq_false h2]
  · rw [e1, e2]
def shA (R : RF) (K : KT) (a1 : Int32) : Int32 := cond (decide (wnR R K a1 = 0)) (dsn (-1) (tld R) (BF R (glr R K (cl a1)))) (wnR R K a1)
theorem s_to2 {R : RF} {K : KT} {s : Nat} (hs : s < 4) (hw : kw K s ≠ 4) (hg : goB R K s = true) : ∀ (k j : Nat) (σ : St), j + k = nL R → H0 σ R → SM σ K → (∀ i, i < j → gI σ 3529 0 i = nI (gof K s i)) → ∃ σ', Vv 321 0 2 [some (vR 96 0), some (vI (nI s)), some (vI (nI j))] [] σ = some (some (vI (dsn 100000 (tld R) (BF R (glr R K s)))), σ') ∧ Fr shS σ σ' ∧ BM σ' R (BF R (glr R K s)) ∧ BV R (BF R (glr R K s)) 1000
  | 0, j, σ, hj, h, hK, ha => by
    have hbb := h.b
    have hj : j = nL R := by omega
    subst hj
    obtain ⟨σ1, c1, f1, B1, V1, _⟩ := s_laysShifts h (glr_mem (by omega) hg)
    obtain ⟨σ2, c2, f2, _⟩ := s_startCode B1.1
    have B2 := BM_rn B1 f2
    have htm := tld_mem h.1
    have hcl := cdr_lt (R := R) (by omega) (by omega) htm
    have hsc := B2.2.2.2 _ htm
    rw [show glr R K s = (List.range (nL R)).map (gof K s) from rfl, cdr_map] at c1
    have ec : cdr R (tld R) = cde (lp R) (nL R) := cdr_map _
    rw [ec] at hcl hsc
    exact ⟨σ2, by rw [v_M_laysTo_2, cI_L h, if_neg (nI_nlt (Nat.le_refl _) (by omega)), s_codeOf h ha, cI_s, c1, cV_s, c2, cI_s, ix_nI hcl (by omega), hsc], f1.tr (rn_sh f2), B2, V1⟩
  | k + 1, j, σ, hj, h, hK, ha => by
    have hbb := h.b
    obtain ⟨k1, k2, k3, k4⟩ := hK s hs
    obtain ⟨g1, g2, g3⟩ := k4 hw
    have hn := goB_n hg
    have hF : Fr rnS σ (sI σ 3529 0 j (nI (gof K s j))) := Fr.rf.sI rfl
    obtain ⟨σ', c1, f1, B1, V1⟩ := s_to2 hs hw hg k (j + 1) (sI σ 3529 0 j (nI (gof K s j))) (by omega) (h.f (rn_sc hF)) (hK.f (rn_sc hF)) (fun i hi => by
      by_cases hij : i = j
      · rw [hij, gI_sIs]
      · rw [gI_sIj hij]
        exact ha i (by omega))
    refine ⟨σ', ?_, (rn_sh hF).tr f1, B1, V1⟩
    rw [v_M_laysTo_2, cI_L h, if_pos (nI_lt (by omega) (by omega)), sixty, nI_add, ix_nI (by omega) (by omega), ix_nI (by omega) (by omega), g3 j (by omega), (gof_e (by omega) hg (show j < nL R by omega)).2, lN_i, nI_1]
    exact c1
theorem s_laysTo {σ : St} {R : RF} (h : H0 σ R) {K : KT} (hK : SM σ K) {s : Nat} (hs : s < 4) (hw : kw K s ≠ 4) (hg : goB R K s = true) : ∃ σ', Cc 321 0 [vR 96 0, vI (nI s)] σ = some (some (vI (dsn 100000 (tld R) (BF R (glr R K s)))), σ') ∧ Fr shS σ σ' ∧ BM σ' R (BF R (glr R K s)) ∧ BV R (BF R (glr R K s)) 1000 := by
  rw [c_M_laysTo]
  exact s_to2 hs hw hg (nL R) 0 σ (by omega) h hK (fun i hi => by omega)
theorem sh_up {σ σ' : St} (h : Fr shS σ σ') : Fr scM σ σ' := h.up (fun t i j hq => by
  cases hz : shS t i j
  · rfl
  · rw [sh_sc t i j hz] at hq
    cases hq)
theorem m_shifts {σ : St} {R : RF} (h : H0 σ R) {K : KT} (hK : SM σ K) (a1 : Int32) : RM 322 [vI a1] σ (vI (shA R K a1)) := by
  have h1 := thr_H h
  have hK1 := hK.f (thr_F σ)
  unfold shA
  refine RM_of (by rw [c_M_shifts, s_whyNotRow h1 hK1, cI_s, ite_n (c := wnR R K a1 = 0)]) (thr_F σ) (fun hq => ?_)
  obtain ⟨s, hs, rfl, hw, hg⟩ := wn_0 (of_decide_eq_true hq)
  obtain ⟨σ1, c1, f1, B1, V1⟩ := s_laysTo h1 hK1 hs hw hg
  refine ⟨σ1, ?_, sh_up f1⟩
  rw [c1, cI_s, cl_n (by omega)]
  rcases dsn_or V1 (tld R) with ⟨e1, e2⟩ | ⟨k, hk, e1, e2⟩
  · rw [e1, e2, if_neg (by decide)]
  · rw [e1, e2, if_pos (show nI k < (100000 : Int32) from nI_lt (b := 100000) (by omega) (by omega))]
theorem k_few2 {R : RF} {K : KT} {s : Nat} (hs : s < 4) (hw : kw K s ≠ 4) (hg : goB R K s = true) : ∀ (k j : Nat) (σ : St), j + k = nL R → K0 σ R → SK σ K → (∀ i, i < j → gI σ 3329 0 i = nI (gof K s i)) → ∃ σ', Vv 87 0 2 [some (vR 64 0), some (vR 80 s), some (vI (nI j))] [] σ = some (some (vI (dsn (-1) (tld R) (BF R (glr R K s)))), σ') ∧ Fr sxS σ σ' ∧ BC σ' R (BF R (glr R K s)) ∧ ∀ i, i < nL R → gI σ' 3329 0 i = nI ((tld R).getD i 0)
  | 0, j, σ, hj, h, hK, ha => by
    have hbb := h.b
    have hj : j = nL R := by omega
    subst hj
    obtain ⟨σ1, c1, f1, B1⟩ := k_spread h (glr_mem (by omega) hg) (fun i hi => by rw [ha i hi, show glr R K s = (List.range (nL R)).map (gof K s) from rfl, getD_map hi])
    obtain ⟨σ2, c2, f2, r2⟩ := k_fillAsTold B1.1
    have B2 := BC_sn B1 f2
    have r3 : ∀ i, i < nL R → gI σ2 3329 0 i = nI ((tld R).getD i 0) := fun i hi => by rw [r2 i hi, tld_get hi]
    exact ⟨σ2, by rw [v_Shifting_fewest_2, h.prL.1, if_neg (nI_nlt (Nat.le_refl _) (by omega)), c1, cV_s, c2, cV_s, k_distS B2 (tld_mem h.1) r3, cI_s], f1.tr (sn_sx f2), B2, r3⟩
  | k + 1, j, σ, hj, h, hK, ha => by
    have hbb := h.b
    have hn := goB_n hg
    have hF : Fr snS σ (sI σ 3329 0 j (nI (gof K s j))) := Fr.rf.sI rfl
    obtain ⟨σ', c1, f1, B1, r1⟩ := k_few2 hs hw hg k (j + 1) (sI σ 3329 0 j (nI (gof K s j))) (by omega) (K0_sc h (sn_sc hF)) (SK_sc hK (sn_sc hF)) (fun i hi => by
      by_cases hij : i = j
      · rw [hij, gI_sIs]
      · rw [gI_sIj hij]
        exact ha i (by omega))
    refine ⟨σ', ?_, (sn_sx hF).tr f1, B1, r1⟩
    rw [v_Shifting_fewest_2, h.prL.1, if_pos (nI_lt (by omega) (by omega)), k_number hK hs hw (by omega), cL_s, ix_nI (by omega) (by omega), (gof_e (by omega) hg (show j < nL R by omega)).2, lN_i, nI_1]
    exact c1
theorem k_fewest {σ : St} {R : RF} (h : K0 σ R) {K : KT} (hK : SK σ K) {s : Nat} (hs : s < 4) (hw : kw K s ≠ 4) (hg : goB R K s = true) : ∃ σ', Cc 87 0 [vR 64 0, vR 80 s] σ = some (some (vI (dsn (-1) (tld R) (BF R (glr R K s)))), σ') ∧ Fr sxS σ σ' ∧ BC σ' R (BF R (glr R K s)) ∧ ∀ i, i < nL R → gI σ' 3329 0 i = nI ((tld R).getD i 0) := by
  rw [c_Shifting_fewest]
  exact k_few2 hs hw hg (nL R) 0 σ (by omega) h hK (fun i hi => by omega)
theorem t_shifts {σ : St} {R : RF} (h : HV σ R) {K : KT} (hK : SK σ K) (a1 : Int32) : RC 149 [vI a1] σ (vI (shA R K a1)) := by
  unfold shA
  refine RC_of (by rw [c_H_shifts, h_refuseGoal h.1 hK, cI_s, ite_n (c := wnR R K a1 = 0)]) (fun hq => ?_)
  obtain ⟨s, hs, rfl, hw, hg⟩ := wn_0 (of_decide_eq_true hq)
  obtain ⟨σ1, c1, f1, B1, r1⟩ := k_fewest h.1 hK hs hw hg
  exact ⟨σ1, by rw [ix_nI hs (by omega), c1, cI_s, cl_n (by omega)], sx_up f1⟩
