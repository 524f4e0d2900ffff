/-! SHIFTS: THE REFERENCE, the whole BFS -/
/-- what stands at turn i -/
def BI (R : RF) (i : Nat) (v : VS) : Prop := BV R v i ∧ (i < v.length → ∀ x, x ∈ v → x.2 ≤ (v.getD i ([], 0)).2 + 1)
theorem BV_up {R : RF} {v : VS} {c c' : Nat} (h : BV R v c) (hc : c ≤ c') : BV R v c' := ⟨fun x hx => ⟨(h.1 x hx).1, Nat.le_trans (h.1 x hx).2 hc⟩, h.2⟩
theorem vs_get {v : VS} {i : Nat} (hi : i < v.length) : v.getD i ([], 0) = v[i] := by
  simp [List.getD, hi]
theorem vs_mem {v : VS} {i : Nat} (hi : i < v.length) : v.getD i ([], 0) ∈ v := by
  rw [vs_get hi]
  exact List.getElem_mem hi
theorem vs_cut {v : VS} {i : Nat} (hi : i < v.length) : ∃ w1 w2, v = w1 ++ v.getD i ([], 0) :: w2 ∧ w1.length = i := by
  refine ⟨v.take i, v.drop (i + 1), ?_, by rw [List.length_take]; omega⟩
  rw [vs_get hi, List.getElem_cons_drop, List.take_append_drop]
theorem BI_next {R : RF} {i : Nat} {v : VS} (h : BI R i v) (hi : i < v.length) : BV R v ((v.getD i ([], 0)).2 + 1) ∧ (v.getD i ([], 0)).2 ≤ i ∧ (v.getD i ([], 0)).1 ∈ rws (nP R) (nL R) 0 ∧ BI R (i + 1) (vsL R (v.getD i ([], 0)).1 (v.getD i ([], 0)).2 (nL R) v) ∧ v.length ≤ (vsL R (v.getD i ([], 0)).1 (v.getD i ([], 0)).2 (nL R) v).length := by
  have hm := vs_mem hi
  have hr := (h.1.1 _ hm).1
  have hd := (h.1.1 _ hm).2
  have h1 : BV R v ((v.getD i ([], 0)).2 + 1) := ⟨fun x hx => ⟨(h.1.1 x hx).1, h.2 hi x hx⟩, h.1.2⟩
  obtain ⟨w, hw⟩ := vsL_pre R (v.getD i ([], 0)).1 (v.getD i ([], 0)).2 (nL R) v
  have hB := BV_vsL hr (d := (v.getD i ([], 0)).2) (nL R) v h1
  refine ⟨h1, hd, hr, ⟨BV_up hB (by omega), fun hi2 x hx => ?_⟩, by rw [hw, List.length_append]; omega⟩
  have hx2 := (hB.1 x hx).2
  have hi3 : i < (vsL R (v.getD i ([], 0)).1 (v.getD i ([], 0)).2 (nL R) v).length := by omega
  have hs := List.pairwise_iff_getElem.mp hB.2.2 i (i + 1) hi3 hi2 (by omega)
  have e1 : (vsL R (v.getD i ([], 0)).1 (v.getD i ([], 0)).2 (nL R) v).getD i ([], 0) = v.getD i ([], 0) := by
    rw [hw]
    simp [List.getD, List.getElem?_append_left hi]
  rw [← vs_get hi3, ← vs_get hi2, e1] at hs
  omega
theorem BM_rn {σ σ' : St} {R : RF} {v : VS} (h : BM σ R v) (hf : Fr rnS σ σ') : BM σ' R v := ⟨h.1.f (rn_sc hf), (hf.i rfl).trans h.2.1, fun k hk => (hf.i rfl).trans (h.2.2.1 k hk), fun r hr => (hf.i rfl).trans (h.2.2.2 r hr)⟩
theorem rn_sh {σ σ' : St} (h : Fr rnS σ σ') : Fr shS σ σ' := h.up (fun t i j hq => by
  cases hz : rnS t i j
  · rfl
  · rw [Nat.eq_of_beq_eq_true hz] at hq
    cases hq)
theorem s_bfs43 {R : RF} (l1 : Int32) : ∀ (k i : Nat) (τ : St) (v : VS), i + k = 721 → BM τ R v → BI R i v → i ≤ v.length → ∃ σ', Vv 317 0 43 [some (vR 96 0), some (vI l1), some (vI (nI i)), none, none] [] τ = some (none, σ') ∧ Fr shS τ σ' ∧ BM σ' R (bfs R k i v) ∧ BV R (bfs R k i v) 1000 ∧ v.length ≤ (bfs R k i v).length
  | 0, i, τ, v, hk, hB, hI, hi => by
    have hbb := hB.1.b
    have hLP := vp_le (vp_told hB.1.1)
    have hm := hmr_le (nP R) (by omega) (nL R) (by omega)
    have hlen := BV_len (by omega) (by omega) hI.1
    exfalso
    omega
  | k + 1, i, τ, v, hk, hB, hI, hi => by
    have hbb := hB.1.b
    have hLP := vp_le (vp_told hB.1.1)
    have hm := hmr_le (nP R) (by omega) (nL R) (by omega)
    have hlen := BV_len (by omega) (by omega) hI.1
    have eb : bfs R (k + 1) i v = if i < v.length then bfs R k (i + 1) (vsL R (v.getD i ([], 0)).1 (v.getD i ([], 0)).2 (nL R) v) else v := rfl
    rw [v_M_laysShifts_43, hB.2.1, eb]
    by_cases hq : i < v.length
    · obtain ⟨h1, hd, hr, hI2, hl2⟩ := BI_next hI hq
      obtain ⟨w1, w2, ew, hw⟩ := vs_cut hq
      obtain ⟨σ1, c1, f1, row1⟩ := s_decodes (f := fun j => (v.getD i ([], 0)).1.getD j 0) hB.1 (fun j hj => rws_6 (by omega) hr hj)
      have B1 := BM_rn hB f1
      obtain ⟨σ2, c2, f2, S2⟩ := s_next63 (R := R) (i := i) (r := (v.getD i ([], 0)).1) (d := (v.getD i ([], 0)).2) (by omega) l1 (v := v) (nL R) 0 σ1 (by omega) ⟨B1, h1, ⟨w1, w2, ew, hw⟩, row1⟩
      obtain ⟨σ3, c3, f3, B3, V3, l3⟩ := s_bfs43 l1 k (i + 1) σ2 _ (by omega) S2.1 hI2 (by omega)
      rw [if_pos (nI_lt hq (by omega)), if_pos hq, ix_nI (by omega) (by omega), hB.2.2.1 i hq]
      refine ⟨σ3, ?_, ((rn_sh f1).tr f2).tr f3, B3, V3, by omega⟩
      unfold cdr
      rw [c1, cV_s]
      exact c2.trans c3
    · rw [if_neg (nI_nlt (by omega) (by omega)), if_neg hq]
      exact ⟨τ, rfl, Fr.rf, hB, BV_up hI.1 (by omega), Nat.le_refl _⟩
/-- all that is visited from a row on -/
def BF (R : RF) (r : List Nat) : VS := bfs R 721 0 [(r, 0)]
theorem BI_0 {R : RF} {r : List Nat} (hr : r ∈ rws (nP R) (nL R) 0) : BI R 0 [(r, 0)] := by
  refine ⟨⟨fun x hx => ?_, ?_, List.pairwise_singleton _ _⟩, fun _ x hx => ?_⟩
  · have := List.mem_singleton.mp hx
    subst this
    exact ⟨hr, Nat.le_refl _⟩
  · exact List.nodup_cons.mpr ⟨fun z => (by cases z), List.nodup_nil⟩
  · have := List.mem_singleton.mp hx
    subst this
    exact Nat.zero_le _
theorem s_laysShifts {σ : St} {R : RF} (h : H0 σ R) {r : List Nat} (hr : r ∈ rws (nP R) (nL R) 0) : ∃ σ', Cc 317 0 [vR 96 0, vI (nI (cdr R r))] σ = some (none, σ') ∧ Fr shS σ σ' ∧ BM σ' R (BF R r) ∧ BV R (BF R r) 1000 ∧ 1 ≤ (BF R r).length := by
  have hbb := h.b
  have hlt := cdr_lt (R := R) (by omega) (by omega) hr
  have hF : Fr shS σ (sI (sI (sI (pI σ 23888337 0 (fun q => if q < 46656 then 100000 else gI σ 23888337 0 q)) 23888337 0 (cdr R r) 0) 369113 0 0 (nI (cdr R r))) 96 0 40 1) := (((Fr.rf.pI (fun _ => rfl)).sI rfl).sI rfl).sI rfl
  have hB : BM (sI (sI (sI (pI σ 23888337 0 (fun q => if q < 46656 then 100000 else gI σ 23888337 0 q)) 23888337 0 (cdr R r) 0) 369113 0 0 (nI (cdr R r))) 96 0 40 1) R [(r, 0)] := by
    refine ⟨h.fr hF sh_sc, gI_sIs _ _ _ _ _, fun k hk => ?_, fun x hx => ?_⟩
    · have hk : k < 1 := hk
      have hk : k = 0 := by omega
      subst hk
      rw [gI_sIn (by decide), gI_sIs]
      rfl
    · have hxl := cdr_lt (R := R) (by omega) (by omega) hx
      rw [gI_sIn (by decide), gI_sIn (by decide)]
      show _ = if r = x then nI 0 else 100000
      by_cases hxr : r = x
      · rw [if_pos hxr, hxr, gI_sIs]
        rfl
      · rw [if_neg hxr, gI_sIj (fun z => hxr (cdr_inj (by omega) hx hr z).symm), gI_pIs, if_pos hxl]
  obtain ⟨σ1, c1, f1, B1, V1, l1⟩ := s_bfs43 (nI (cdr R r)) 721 0 _ _ (by omega) hB (BI_0 hr) (Nat.zero_le _)
  refine ⟨σ1, ?_, hF.tr f1, B1, V1, l1⟩
  have e46 : ¬ nI 46656 < (46656 : Int32) := by decide
  rw [c_M_laysShifts, s_since0, v_M_laysShifts_2, if_neg e46, ix_nI hlt (by omega)]
  exact c1
/-- the row told -/
def tld (R : RF) : List Nat := (List.range (nL R)).map (lp R)
theorem tld_get {R : RF} {i : Nat} (hi : i < nL R) : (tld R).getD i 0 = lp R i := getD_map hi
theorem rw_mem {R : RF} {f : Nat → Nat} (h : VP R f) : (List.range (nL R)).map f ∈ rws (nP R) (nL R) 0 := by
  refine (rws_mem _ _ _ _).mpr ⟨by rw [List.length_map, List.length_range], fun x hx => ?_, ?_⟩
  · obtain ⟨i, hi, e⟩ := List.mem_map.mp hx
    rw [← e]
    exact ⟨h.1 i (List.mem_range.mp hi), Nat.zero_testBit _⟩
  · refine List.pairwise_iff_getElem.mpr (fun i j hi hj hij => ?_)
    rw [List.length_map, List.length_range] at hi hj
    rw [List.getElem_map, List.getElem_map, List.getElem_range, List.getElem_range]
    exact fun z => absurd (h.2 i j hi hj z) (by omega)
theorem tld_mem {R : RF} (h : WF R) : tld R ∈ rws (nP R) (nL R) 0 := rw_mem (vp_told h)
theorem cde_c {f g : Nat → Nat} : ∀ {n : Nat}, (∀ i, i < n → f i = g i) → cde f n = cde g n
  | 0, _ => rfl
  | n + 1, h => by
    show 6 * cde f n + f n = 6 * cde g n + g n
    rw [cde_c (fun i hi => h i (by omega)), h n (by omega)]
theorem cdr_map {R : RF} (f : Nat → Nat) : cdr R ((List.range (nL R)).map f) = cde f (nL R) := cde_c (fun i hi => getD_map hi)
/-- what comes of all shifts: how many rows, the farthest -/
def lsd (v : VS) : Nat := (v.getD (v.length - 1) ([], 0)).2
theorem m_reach {σ : St} {R : RF} (h : H0 σ R) : RM 324 [] σ (vI (cond (decide (0 < nN R)) (nI (BF R (tld R)).length) (-2))) := by
  have h1 := thr_H h
  refine RM_of (by rw [c_M_reach, r_isRoof h1, cI_s, tv_ite]) (thr_F σ) (fun _ => ?_)
  obtain ⟨σ1, c1, f1, _⟩ := s_startCode h1
  obtain ⟨σ2, c2, f2, B2, V2, l2⟩ := s_laysShifts (h1.f (rn_sc f1)) (tld_mem h.1)
  unfold tld at c2
  rw [cdr_map] at c2
  exact ⟨σ2, by rw [c1, cI_s, c2, cV_s, B2.2.1], (rn_sc f1).tr (f2.up (fun t i j hq => by
    cases hz : shS t i j
    · rfl
    · rw [sh_sc t i j hz] at hq
      cases hq))⟩
theorem m_far {σ : St} {R : RF} (h : H0 σ R) : RM 325 [] σ (vI (cond (decide (0 < nN R)) (nI (lsd (BF R (tld R)))) (-2))) := by
  have h1 := thr_H h
  have hbb := h.b
  have hLP := vp_le (vp_told h.1)
  have hm := hmr_le (nP R) (by omega) (nL R) (by omega)
  refine RM_of (by rw [c_M_far, r_isRoof h1, cI_s, tv_ite]) (thr_F σ) (fun _ => ?_)
  obtain ⟨σ1, c1, f1, _⟩ := s_startCode h1
  obtain ⟨σ2, c2, f2, B2, V2, l2⟩ := s_laysShifts (h1.f (rn_sc f1)) (tld_mem h.1)
  have hlen := BV_len (by omega) (by omega) V2
  have hi : (BF R (tld R)).length - 1 < (BF R (tld R)).length := by omega
  have hmem := vs_mem hi
  have hr := (V2.1 _ hmem).1
  unfold tld at c2
  rw [cdr_map] at c2
  refine ⟨σ2, ?_, (rn_sc f1).tr (f2.up (fun t i j hq => by
    cases hz : shS t i j
    · rfl
    · rw [sh_sc t i j hz] at hq
      cases hq))⟩
  rw [c1, cI_s, c2, cV_s, B2.2.1, show nI (BF R (tld R)).length - (1 : Int32) = nI ((BF R (tld R)).length - 1) from pk_sub (b := 1) (by omega), ix_nI (by omega) (by omega), B2.2.2.1 _ hi, ix_nI (cdr_lt (by omega) (by omega) hr) (by omega), B2.2.2.2 _ hr, dsn_at V2.2.1 hmem]
  rfl
