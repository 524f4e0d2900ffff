/-! SHIFTS: what the BFS keeps -/
theorem nodup_set {r : List Nat} (h : r.Nodup) {p : Nat} (hp : p ∉ r) (l : Nat) : (r.set l p).Nodup := by
  have h' := List.pairwise_iff_getElem.mp h
  refine List.pairwise_iff_getElem.mpr (fun i j hi hj hij => ?_)
  have hi' : i < r.length := by rw [List.length_set] at hi; exact hi
  have hj' : j < r.length := by rw [List.length_set] at hj; exact hj
  rw [List.getElem_set, List.getElem_set]
  by_cases h1 : l = i
  · rw [if_pos h1]
    by_cases h2 : l = j
    · omega
    · rw [if_neg h2]
      exact fun z => hp (by rw [z]; exact List.getElem_mem hj')
  · rw [if_neg h1]
    by_cases h2 : l = j
    · rw [if_pos h2]
      exact fun z => hp (by rw [← z]; exact List.getElem_mem hi')
    · rw [if_neg h2]
      exact h' i j hi' hj' hij
theorem rws_set {P L : Nat} {r : List Nat} (h : r ∈ rws P L 0) {p : Nat} (hp : p < P) (hn : p ∉ r) (l : Nat) : r.set l p ∈ rws P L 0 := by
  obtain ⟨h1, h2, h3⟩ := (rws_mem P L 0 r).mp h
  refine (rws_mem P L 0 _).mpr ⟨by rw [List.length_set]; exact h1, fun x hx => ?_, nodup_set h3 hn l⟩
  rcases List.mem_or_eq_of_mem_set hx with hx | hx
  · exact h2 x hx
  · subst hx
    exact ⟨hp, Nat.zero_testBit _⟩
theorem may_not {R : RF} {r : List Nat} {l p : Nat} (hl : r.length = nL R) (h : mayB R r l p = true) : p ∉ r := by
  unfold mayB at h
  rw [Bool.and_eq_true, nmt_tb] at h
  intro hm
  obtain ⟨i, hi, e⟩ := in_getD hm
  have : ex (fun i => decide (r.getD i 0 = p)) (nL R) = true := ex_iff.mpr ⟨i, by omega, decide_eq_true e⟩
  rw [this] at h
  cases h.2
theorem BV_vsP {R : RF} {r : List Nat} (hr : r ∈ rws (nP R) (nL R) 0) {d : Nat} (l : Nat) : ∀ (p : Nat) (v : VS), p ≤ nP R → BV R v (d + 1) → BV R (vsP R r d l p v) (d + 1)
  | 0, v, _, h => h
  | p + 1, v, hp, h => by
    have ih := BV_vsP hr l p v (by omega) h
    show BV R (cond (mayB R r l p) (vst (vsP R r d l p v) (r.set l p) (d + 1)) (vsP R r d l p v)) (d + 1)
    cases hb : mayB R r l p
    · exact ih
    · exact BV_vst ih (rws_set hr (by omega) (may_not (rws_len _ _ _ _ hr) hb) l)
theorem BV_vsL {R : RF} {r : List Nat} (hr : r ∈ rws (nP R) (nL R) 0) {d : Nat} : ∀ (l : Nat) (v : VS), BV R v (d + 1) → BV R (vsL R r d l v) (d + 1)
  | 0, v, h => h
  | l + 1, v, h => BV_vsP hr l (nP R) _ (Nat.le_refl _) (BV_vsL hr l v h)
/-- what is visited stays -/
theorem vst_pre (v : VS) (r : List Nat) (d : Nat) : ∃ w, vst v r d = v ++ w := by
  unfold vst
  cases v.any (fun x => decide (x.1 = r))
  · exact ⟨[(r, d)], rfl⟩
  · exact ⟨[], (List.append_nil v).symm⟩
theorem vsP_pre (R : RF) (r : List Nat) (d l : Nat) : ∀ (p : Nat) (v : VS), ∃ w, vsP R r d l p v = v ++ w
  | 0, v => ⟨[], (List.append_nil v).symm⟩
  | p + 1, v => by
    obtain ⟨w, hw⟩ := vsP_pre R r d l p v
    show ∃ w, cond (mayB R r l p) (vst (vsP R r d l p v) (r.set l p) (d + 1)) (vsP R r d l p v) = v ++ w
    cases mayB R r l p
    · exact ⟨w, hw⟩
    · obtain ⟨w2, h2⟩ := vst_pre (vsP R r d l p v) (r.set l p) (d + 1)
      exact ⟨w ++ w2, by rw [cond_true, h2, hw, List.append_assoc]⟩
theorem vsL_pre (R : RF) (r : List Nat) (d : Nat) : ∀ (l : Nat) (v : VS), ∃ w, vsL R r d l v = v ++ w
  | 0, v => ⟨[], (List.append_nil v).symm⟩
  | l + 1, v => by
    obtain ⟨w, hw⟩ := vsL_pre R r d l v
    obtain ⟨w2, h2⟩ := vsP_pre R r d l (nP R) (vsL R r d l v)
    exact ⟨w ++ w2, by show vsP R r d l (nP R) (vsL R r d l v) = _; rw [h2, hw, List.append_assoc]⟩
