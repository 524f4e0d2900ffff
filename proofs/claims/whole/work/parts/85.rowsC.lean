/-! ROWS: what comes of them all; THE CLASS -/
theorem cn_le1 {P : Nat → Bool} : ∀ {n : Nat}, (∀ a b, a < n → b < n → P a = true → P b = true → a = b) → cn P n ≤ 1
  | 0, _ => Nat.zero_le 1
  | n + 1, h => by
    show cn P n + cond (P n) 1 0 ≤ 1
    cases hp : P n
    · have := cn_le1 (P := P) (n := n) (fun a b ha hb => h a b (by omega) (by omega))
      show cn P n + 0 ≤ 1
      omega
    · have : cn P n = 0 := cn_0 (fun k hk => by
        cases hz : P k
        · rfl
        · have := h k n (by omega) (by omega) hz hp
          omega)
      rw [this]
      decide
theorem sm_1 (n : Nat) : sm (fun _ => 1) n = n := by
  induction n with
  | zero => rfl
  | succ n ih =>
    show sm (fun _ => 1) n + 1 = n + 1
    rw [ih]
theorem vp_le {R : RF} {f : Nat → Nat} (h : VP R f) : nL R ≤ nP R := by
  have e := sm_swp (c := fun _ => 1) (pos := f) (v := fun _ => 1) (n := nP R) (nL R) (fun x hx => h.1 x hx)
  have e2 : sm (fun x => (1 : Nat) * 1) (nL R) = nL R := sm_1 _
  rw [e2] at e
  have e3 := sm_le (f := fun p => sm (fun x => 1 * cond (decide (f x = p)) 1 0) (nL R) * 1) (c := 1) (n := nP R) (fun p _ => by
    show sm (fun x => 1 * cond (decide (f x = p)) 1 0) (nL R) * 1 ≤ 1
    have e4 : sm (fun x => 1 * cond (decide (f x = p)) 1 0) (nL R) = cn (fun x => decide (f x = p)) (nL R) := sm_congr (fun x _ => Nat.one_mul _)
    rw [e4, Nat.mul_one]
    exact cn_le1 (fun a b ha hb h1 h2 => h.2 a b ha hb ((of_decide_eq_true h1).trans (of_decide_eq_true h2).symm)))
  rw [e] at e3
  omega
abbrev RS : Type := Int32 × Int32 × List Nat
def gl (R : RF) (f : Nat → Nat) : Nat := cn (fun l => see R (fal R) (f l) (lh R l)) (nL R)
/-- one row more: the most, how many, the first -/
def rst (R : RF) (f : Nat → Nat) (a : RS) : RS := if nI (gl R f) ≤ a.1 then (if nI (gl R f) = a.1 then (a.1, a.2.1 + 1, a.2.2) else a) else (nI (gl R f), 1, (List.range (nL R)).map f)
theorem gl_c {R : RF} {f g : Nat → Nat} (h : ∀ i, i < nL R → f i = g i) : gl R f = gl R g := sm_congr (fun l hl => by
  show cond (see R (fal R) (f l) (lh R l)) 1 0 = cond (see R (fal R) (g l) (lh R l)) 1 0
  rw [h l hl])
theorem rst_c {R : RF} {f g : Nat → Nat} (h : ∀ i, i < nL R → f i = g i) (a : RS) : rst R f a = rst R g a := by
  unfold rst
  rw [gl_c h, show (List.range (nL R)).map f = (List.range (nL R)).map g from List.map_congr_left (fun i hi => h i (List.mem_range.mp hi))]
theorem gl_le (R : RF) (f : Nat → Nat) : gl R f ≤ nL R := cn_le _ _
theorem rst_1 {R : RF} (hb : nL R ≤ 6) (f : Nat → Nat) (a : RS) : (rst R f a).1 ≠ -1 := by
  have hg := gl_le R f
  unfold rst
  by_cases h1 : nI (gl R f) ≤ a.1
  · rw [if_pos h1]
    have h2 : a.1 ≠ -1 := fun z => by
      rw [z, Int32.le_iff_toInt_le, nI_toInt (by omega), show (-1 : Int32).toInt = -1 from rfl] at h1
      omega
    by_cases h3 : nI (gl R f) = a.1
    · rw [if_pos h3]; exact h2
    · rw [if_neg h3]; exact h2
  · rw [if_neg h1]
    exact nI_nm (by omega)
/-- the rows' numbers one after the other -/
def aN (R : RF) : Nat → RS
  | 0 => (-1, 0, [])
  | n + 1 => rst R (vF (nP R) (dgt (nP R) (nL R) n)) (aN R n)
def rfd (R : RF) (l : List (List Nat)) (a : RS) : RS := l.foldl (fun a r => rst R (fun i => r.getD i 0) a) a
theorem getD_map {L : Nat} {f : Nat → Nat} {i : Nat} (hi : i < L) : ((List.range L).map f).getD i 0 = f i := by
  simp [List.getD, hi]
theorem aN_rfd (R : RF) : ∀ N, aN R N = rfd R ((List.range N).map (fun n => (List.range (nL R)).map (vF (nP R) (dgt (nP R) (nL R) n)))) (-1, 0, [])
  | 0 => rfl
  | N + 1 => by
    show rst R (vF (nP R) (dgt (nP R) (nL R) N)) (aN R N) = _
    rw [aN_rfd R N, List.range_succ, List.map_append]
    unfold rfd
    rw [List.foldl_append]
    show _ = rst R _ _
    exact rst_c (fun i hi => (getD_map hi).symm) _
/-- what comes of all rows -/
def ALR (R : RF) : RS := rfd R (rws (nP R) (nL R) 0) (-1, 0, [])
theorem aN_all {R : RF} (h : WF R) : aN R (hmr (nP R) (nL R)) = ALR R := by
  have hb := h.1.1
  have hl := vp_le (vp_told h)
  rw [aN_rfd, rws_n (nP R) (by omega) (nL R) (by omega)]
  rfl
theorem rws_lt (P : Nat) : ∀ k u r, r ∈ rws P k u → ∀ x, x ∈ r → x < P
  | 0, u, r, hr, x, hx => by
    have : r = [] := List.mem_singleton.mp hr
    subst this
    cases hx
  | k + 1, u, r, hr, x, hx => by
    obtain ⟨p, hp, hr2⟩ := List.mem_flatMap.mp hr
    cases hb : Nat.testBit u p
    · rw [hb] at hr2
      obtain ⟨r', h1, h2⟩ := List.mem_map.mp hr2
      subst h2
      cases hx with
      | head => exact List.mem_range.mp hp
      | tail _ h3 => exact rws_lt P k _ r' h1 x h3
    · rw [hb] at hr2
      cases hr2
theorem vF_lt {P L n i : Nat} (hP : P < 7) (hL : L < P + 1) (hn : n < hmr P L) (hi : i < L) : vF P (dgt P L n) i < P := by
  have h1 : (List.range L).map (vF P (dgt P L n)) ∈ rws P L 0 := by
    rw [← rws_n P hP L hL]
    exact List.mem_map.mpr ⟨n, List.mem_range.mpr hn, rfl⟩
  exact rws_lt P L 0 _ h1 _ (List.mem_map.mpr ⟨i, List.mem_range.mpr hi, rfl⟩)
theorem hmr_pos {P : Nat} : ∀ {L : Nat}, L ≤ P → 0 < hmr P L
  | 0, _ => Nat.one_pos
  | k + 1, h => Nat.mul_pos (hmr_pos (L := k) (by omega)) (by omega)
theorem ALR_1 {R : RF} (h : WF R) : (ALR R).1 ≠ -1 := by
  have hb := h.1.1
  have hbL := h.1.2.2.2.2.1
  have hl := vp_le (vp_told h)
  have hp := hmr_pos hl
  rw [← aN_all h]
  obtain ⟨m, hm⟩ : ∃ m, hmr (nP R) (nL R) = m + 1 := ⟨hmr (nP R) (nL R) - 1, by omega⟩
  rw [hm]
  exact rst_1 (by omega) _ _
/-! THE CLASS -/
theorem h_howMany (σ : St) {P L : Nat} (hP : P ≤ 6) (hL : L ≤ P) : Cc 199 0 [vI (nI P), vI (nI L)] σ = some (some (vI (nI (hmr P L))), σ) := by
  rw [c_H_howManyRows]
  refine (lpU (V := fun j => Vv 199 0 4 [some (vI (nI P)), some (vI (nI L)), some (vI (nI (hmr P j))), some (vI (nI j))] [] σ) (n := L) (fun j hj => ?_)).trans ?_
  · show Vv _ _ _ _ _ _ = Vv _ _ _ _ _ _
    rw [v_H_howManyRows_4, if_pos (nI_lt hj (by omega)), pk_sub (show j ≤ P by omega), pk_mul, nI_1]
    rfl
  · show Vv _ _ _ _ _ _ = _
    rw [v_H_howManyRows_4, if_neg (nI_nlt (Nat.le_refl _) (by omega))]
theorem k_gladByRow {σ : St} {R : RF} (h : HV σ R) {f : Nat → Nat} (hr : ∀ i, i < nL R → gI σ 3297 0 i = nI (f i)) (hf : ∀ i, i < nL R → f i < nP R) : Cc 82 0 [vR 56 0] σ = some (some (vI (nI (gl R f))), σ) := by
  have hbb := h.1.b
  rw [c_Rosters_gladByRow]
  refine (lpC (V := fun x j => Vv 82 0 4 [some (vR 56 0), some (vI x), some (vI (nI j))] [] σ) (P := fun l => see R (fal R) (f l) (lh R l)) (n := nL R) (fun j x hj => ?_)).trans ?_
  · show Vv _ _ _ _ _ _ = cond _ (Vv _ _ _ _ _ _) (Vv _ _ _ _ _ _)
    have hm : lh R j < nM R := (h.1.1.2.2.2.2.2.2.1 j hj).2
    rw [v_Rosters_gladByRow_4, h.1.prL.1, if_pos (nI_lt hj (by omega)), ix_nI (by omega) (by omega), k_lh h.1 hj, cI_s, hr j hj, k_isSeen (i := 0) h.1 h.2.1 (hf j hj) hm, cI_s, tv_ite, nI_1]
  · show Vv _ _ _ _ _ _ = _
    rw [v_Rosters_gladByRow_4, h.1.prL.1, if_neg (nI_nlt (Nat.le_refl _) (by omega))]
    rfl
/-- the class behind some rows -/
def TR (σ : St) (R : RF) (a : RS) : Prop := HV σ R ∧ gI σ 56 0 4 = a.1 ∧ gI σ 56 0 5 = a.2.1 ∧ (a.1 ≠ -1 → ∀ i, i < nL R → gI σ 3305 0 i = nI (a.2.2.getD i 0))
theorem rrow_sc {σ σ' : St} (h : Fr rrowS σ σ') : Fr scC σ σ' := h.up (fun t i j hq => by
  cases hz : rrowS t i j
  · rfl
  · unfold rrowS at hz
    rw [Bool.and_eq_true] at hz
    rw [Nat.eq_of_beq_eq_true hz.1] at hq
    cases hq)
theorem k_try38 {R : RF} : ∀ (k n : Nat) (σ : St), n + k = hmr (nP R) (nL R) → TR σ R (aN R n) → ∃ σ', Vv 81 0 38 [some (vR 56 0), some (vI (nI (nL R))), some (vI (nI (hmr (nP R) (nL R)))), some (vI (nI n)), none] [] σ = some (none, σ') ∧ Fr scC σ σ' ∧ TR σ' R (aN R (hmr (nP R) (nL R)))
  | 0, n, σ, hn, h => by
    have hbb := h.1.1.b
    have hL := vp_le (vp_told h.1.1.1)
    have hm := hmr_le (nP R) (by omega) (nL R) (by omega)
    have hn : n = hmr (nP R) (nL R) := by omega
    subst hn
    exact ⟨σ, by rw [v_Rosters_tryAll_38, if_neg (nI_nlt (Nat.le_refl _) (by omega))], Fr.rf, h⟩
  | k + 1, n, σ, hn, h => by
    have hbb := h.1.1.b
    have hL := vp_le (vp_told h.1.1.1)
    have hm := hmr_le (nP R) (by omega) (nL R) (by omega)
    obtain ⟨σ1, c1, f1, r1⟩ := rrow_fill σ (P := nP R) (L := nL R) (n := n) (by omega) hL (by omega)
    have g1 := rrow_sc f1
    have h1 := HV_sc h.1 g1
    have hg := k_gladByRow h1 r1 (fun i hi => vF_lt (by omega) (by omega) (show n < hmr (nP R) (nL R) by omega) hi)
    have t4 : gI σ1 56 0 4 = (aN R n).1 := (f1.i rfl).trans h.2.1
    have t5 : gI σ1 56 0 5 = (aN R n).2.1 := (f1.i rfl).trans h.2.2.1
    have tf : (aN R n).1 ≠ -1 → ∀ i, i < nL R → gI σ1 3305 0 i = nI ((aN R n).2.2.getD i 0) := fun z i hi => (f1.i rfl).trans (h.2.2.2 z i hi)
    have ea : aN R (n + 1) = rst R (vF (nP R) (dgt (nP R) (nL R) n)) (aN R n) := rfl
    have k6 : (0 ≤ Int32.toInt 6 ∧ 0 ≤ Int32.toInt 0 ∧ 0 ≤ Int32.toInt 0 ∧ Int32.toInt 0 + Int32.toInt 6 ≤ ((6 : Nat) : Int) ∧ Int32.toInt 0 + Int32.toInt 6 ≤ ((6 : Nat) : Int)) := by decide
    have step : ∃ σ2, Vv 81 0 38 [some (vR 56 0), some (vI (nI (nL R))), some (vI (nI (hmr (nP R) (nL R)))), some (vI (nI n)), none] [] σ = Vv 81 0 38 [some (vR 56 0), some (vI (nI (nL R))), some (vI (nI (hmr (nP R) (nL R)))), some (vI (nI (n + 1))), none] [] σ2 ∧ Fr scC σ1 σ2 ∧ TR σ2 R (aN R (n + 1)) := by
      rw [v_Rosters_tryAll_38, if_pos (nI_lt (by omega) (by omega)), h.1.1.prP.1, c1, cV_s, hg, cI_s, t4, t5, nI_1, ea]
      unfold rst
      by_cases q1 : nI (gl R (vF (nP R) (dgt (nP R) (nL R) n))) ≤ (aN R n).1
      · rw [if_pos q1, if_pos q1]
        by_cases q2 : nI (gl R (vF (nP R) (dgt (nP R) (nL R) n))) = (aN R n).1
        · rw [if_pos q2, if_pos q2]
          have hF : Fr scC σ1 (sI σ1 56 0 5 ((aN R n).2.1 + 1)) := Fr.rf.sI rfl
          exact ⟨_, rfl, hF, HV_sc h1 hF, (gI_sIj (by decide)).trans t4, gI_sIs _ _ _ _ _, fun z i hi => (gI_sIn (by decide)).trans (tf z i hi)⟩
        · rw [if_neg q2, if_neg q2]
          exact ⟨σ1, rfl, Fr.rf, h1, t4, t5, tf⟩
      · rw [if_neg q1, if_neg q1, if_pos k6]
        have F1 : Fr scC σ1 (sI (sI σ1 56 0 4 (nI (gl R (vF (nP R) (dgt (nP R) (nL R) n))))) 56 0 5 0) := (Fr.rf.sI rfl).sI rfl
        have gR : ∀ j, gI (cpI (sI (sI σ1 56 0 4 (nI (gl R (vF (nP R) (dgt (nP R) (nL R) n))))) 56 0 5 0) 3297 0 (Int32.toNatClampNeg 0) 3305 0 (Int32.toNatClampNeg 0) (Int32.toNatClampNeg 6)) 56 0 j = gI (sI (sI σ1 56 0 4 (nI (gl R (vF (nP R) (dgt (nP R) (nL R) n))))) 56 0 5 0) 56 0 j := fun j => by rw [gI_cpI, if_neg (fun z => absurd z.1 (by decide))]
        have gF : ∀ i, i < nL R → gI (cpI (sI (sI σ1 56 0 4 (nI (gl R (vF (nP R) (dgt (nP R) (nL R) n))))) 56 0 5 0) 3297 0 (Int32.toNatClampNeg 0) 3305 0 (Int32.toNatClampNeg 0) (Int32.toNatClampNeg 6)) 3305 0 i = nI (vF (nP R) (dgt (nP R) (nL R) n) i) := fun i hi => by
          rw [gI_cpI, if_pos ⟨rfl, rfl, Nat.zero_le _, show i < 0 + 6 by omega⟩, show (Int32.toNatClampNeg 0) = 0 from rfl, Nat.zero_add, Nat.sub_zero, gI_sIn (by decide), gI_sIn (by decide)]
          exact r1 i hi
        have F2 : Fr scC (sI (sI σ1 56 0 4 (nI (gl R (vF (nP R) (dgt (nP R) (nL R) n))))) 56 0 5 0) (cpI (sI (sI σ1 56 0 4 (nI (gl R (vF (nP R) (dgt (nP R) (nL R) n))))) 56 0 5 0) 3297 0 (Int32.toNatClampNeg 0) 3305 0 (Int32.toNatClampNeg 0) (Int32.toNatClampNeg 6)) := fun t i j hq => ⟨by
          rw [gI_cpI, if_neg]
          rintro ⟨rfl, rfl, -⟩
          exact Bool.noConfusion hq, rfl⟩
        have F3 := F1.tr F2
        generalize cpI (sI (sI σ1 56 0 4 (nI (gl R (vF (nP R) (dgt (nP R) (nL R) n))))) 56 0 5 0) 3297 0 (Int32.toNatClampNeg 0) 3305 0 (Int32.toNatClampNeg 0) (Int32.toNatClampNeg 6) = σ2 at gR gF F3 ⊢
        have e4 : gI σ2 56 0 4 = nI (gl R (vF (nP R) (dgt (nP R) (nL R) n))) := by rw [gR, gI_sIj (by decide), gI_sIs]
        have e5 : gI σ2 56 0 5 = 0 := by rw [gR, gI_sIs]
        rw [if_pos e4.symm, e5]
        have hF : Fr scC σ2 (sI σ2 56 0 5 (0 + 1)) := Fr.rf.sI rfl
        refine ⟨_, rfl, F3.tr hF, HV_sc h1 (F3.tr hF), (gI_sIj (by decide)).trans e4, gI_sIs _ _ _ _ _, fun z i hi => ?_⟩
        show _ = nI (((List.range (nL R)).map (vF (nP R) (dgt (nP R) (nL R) n))).getD i 0)
        rw [gI_sIn (by decide), gF i hi, getD_map hi]
    obtain ⟨σ2, c2, f2, t2⟩ := step
    obtain ⟨σ3, c3, f3, t3⟩ := k_try38 k (n + 1) σ2 (by omega) t2
    exact ⟨σ3, c2.trans c3, (g1.tr f2).tr f3, t3⟩
theorem k_tryAll {σ : St} {R : RF} (h : HV σ R) : ∃ σ', Cc 81 0 [vR 56 0] σ = some (none, σ') ∧ Fr scC σ σ' ∧ TR σ' R (ALR R) := by
  have hbb := h.1.b
  have hL := vp_le (vp_told h.1.1)
  have F1 : Fr scC σ (sI (sI σ 56 0 4 (-1)) 56 0 5 0) := (Fr.rf.sI rfl).sI rfl
  obtain ⟨σ1, c1, f1, t1⟩ := k_try38 (R := R) (hmr (nP R) (nL R)) 0 _ (by omega) ⟨HV_sc h F1, (gI_sIj (by decide)).trans (gI_sIs _ _ _ _ _), gI_sIs _ _ _ _ _, fun z => absurd rfl z⟩
  rw [aN_all h.1.1] at t1
  refine ⟨σ1, ?_, F1.tr f1, t1⟩
  rw [c_Rosters_tryAll, h.1.prP.1, h.1.prL.1, h_howMany σ (by omega) hL, cI_s]
  exact c1
theorem t_roster {σ : St} {R : RF} (h : HV σ R) : RC 145 [] σ (vI (cond (decide (0 < nN R)) (ALR R).1 (-2))) := by
  refine RC_of (by rw [c_H_roster, h_isTold h.1, cI_s, tv_ite]) (fun _ => ?_)
  obtain ⟨σ1, c1, f1, t1⟩ := k_tryAll h
  exact ⟨σ1, by rw [c1, cV_s, t1.2.1], f1⟩
theorem t_rosters {σ : St} {R : RF} (h : HV σ R) : RC 147 [] σ (vI (cond (decide (0 < nN R)) (ALR R).2.1 (-2))) := by
  refine RC_of (by rw [c_H_rosters, h_isTold h.1, cI_s, tv_ite]) (fun _ => ?_)
  obtain ⟨σ1, c1, f1, t1⟩ := k_tryAll h
  exact ⟨σ1, by rw [c1, cV_s, t1.2.2.1], f1⟩
theorem t_put {σ : St} {R : RF} (h : HV σ R) (a1 : Int32) : RC 146 [vI a1] σ (vI (cond (inB a1 (nL R)) (nI ((ALR R).2.2.getD (cl a1) 0)) (-2))) := by
  have hbb := h.1.b
  refine RC_of (by rw [c_H_put, k_has h.1.prL (by omega), cI_s, tv_ite]) (fun hq => ?_)
  obtain ⟨l, hl, rfl⟩ := inB_e (by omega) hq
  obtain ⟨σ1, c1, f1, t1⟩ := k_tryAll h
  refine ⟨σ1, ?_, f1⟩
  rw [c1, cV_s, c_Rosters_placeInFirst, k_has t1.1.1.prL (by omega), cI_s, inB_n hl (by omega), tv_ite, cond_true, ix_nI (by omega) (by omega), cI_s, t1.2.2.2 (ALR_1 h.1.1) l hl, cl_n (by omega)]
