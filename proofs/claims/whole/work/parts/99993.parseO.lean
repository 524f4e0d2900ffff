/-! THE CLASS: one more of a kind -/
def lqS (q t i j : Nat) : Bool := rdS t i j || pqC q t i j
def lqM (t i j : Nat) : Bool := lqS 6 t i j || (Nat.beq t 3705 && Nat.beq i 1)
theorem rd_lq {q : Nat} {σ σ' : St} (h : Fr rdS σ σ') : Fr (lqS q) σ σ' := h.up (fun t i j hq => by
  unfold lqS at hq
  rw [Bool.or_eq_false_iff] at hq
  exact hq.1)
theorem lq_M {σ σ' : St} (h : Fr (lqS 6) σ σ') : Fr lqM σ σ' := h.up (fun t i j hq => by
  unfold lqM at hq
  rw [Bool.or_eq_false_iff] at hq
  exact hq.1)
theorem HC_rd {σ σ' : St} {k : Nat} {R : RF} (h : HC σ k R) (hf : Fr rdS σ σ') : HC σ' k R := h.fr hf (fun _ => ⟨rfl, fun _ _ => ⟨rfl, rfl, rfl⟩, rfl, rfl, rfl, rfl, rfl⟩)
theorem PR_fr {X : Nat → Nat → Nat → Bool} {σ σ' : St} {q n : Nat} {f g f' g' : Nat → Nat} (h : PR σ q n f g) (hf : Fr X σ σ') (h1 : ∀ j, X 32 q j = false ∧ X 105 q j = false ∧ X 113 q j = false) (e : ∀ i, i < n → f' i = f i ∧ g' i = g i) : PR σ' q n f' g' := ⟨(hf.i (h1 _).1).trans h.1, fun i hi => ⟨by rw [hf.i (h1 _).2.1, (e i hi).1]; exact (h.2 i hi).1, by rw [hf.i (h1 _).2.2, (e i hi).2]; exact (h.2 i hi).2⟩⟩
theorem PR_add {σ σ' : St} {q n x y : Nat} {f g f' g' : Nat → Nat} (h : PR σ q n f g) (e1 : gI σ' 32 q 2 = nI (n + 1)) (e2 : ∀ j, j < n → gI σ' 105 q j = gI σ 105 q j ∧ gI σ' 113 q j = gI σ 113 q j) (e3 : gI σ' 105 q n = nI x ∧ gI σ' 113 q n = nI y) (df : ∀ j, f' j = if j = n then x else f j) (dg : ∀ j, g' j = if j = n then y else g j) : PR σ' q (n + 1) f' g' := by
  refine ⟨e1, fun i hi => ?_⟩
  rw [df, dg]
  by_cases hq : i = n
  · rw [if_pos hq, if_pos hq, hq]; exact e3
  · rw [if_neg hq, if_neg hq, (e2 i (by omega)).1, (e2 i (by omega)).2]; exact h.2 i (by omega)
theorem HC_aP {σ σ' : St} {R : RF} {x y : Nat} (h : HC σ 1 R) (hf : Fr (lqS 5) σ σ') (e1 : gI σ' 32 5 2 = nI (nP R + 1)) (e2 : ∀ j, j < nP R → gI σ' 105 5 j = gI σ 105 5 j ∧ gI σ' 113 5 j = gI σ 113 5 j) (e3 : gI σ' 105 5 (nP R) = nI x ∧ gI σ' 113 5 (nP R) = nI y) : HC σ' 1 (A2 R 1 2 3 x y) := by
  obtain ⟨h1, h2, h3, h4, h5, h6, h7, h8, h9, h10, h11, h12⟩ := h
  have q : ∀ j, (A2 R 1 2 3 x y) 0 j = if j = 3 then R 0 3 + 1 else R 0 j := fun j => by
    rw [A2_0 (by decide) (by decide)]
  have da : ∀ j, (A2 R 1 2 3 x y) 1 j = if j = nP R then x else R 1 j := fun j => by
    rw [A2_a (by decide) (by decide)]
  have db : ∀ j, (A2 R 1 2 3 x y) 2 j = if j = nP R then y else R 2 j := fun j => by
    rw [A2_b (by decide) (by decide)]
  have dd : ∀ d j, d ≠ 0 → d ≠ 1 → d ≠ 2 → (A2 R 1 2 3 x y) d j = R d j := fun d j g0 g1 g2 => A2_d g0 g1 g2 j
  generalize (A2 R 1 2 3 x y) = Q at q da db dd ⊢
  have k3 : nP Q = nP R + 1 := q 3
  have k4 : nM Q = nM R := q 4
  have k5 : nF Q = nF R := q 5
  have k6 : nW Q = nW R := q 6
  have k7 : nL Q = nL R := q 7
  have k8 : nA Q = nA R := q 8
  have k9 : nN Q = nN R := q 9
  have k0 : yr Q = yr R := q 0
  have ka : lw Q = lw R := q 1
  have kb : od Q = od R := q 2
  refine ⟨by rw [k0, hf.i rfl]; exact h1, by rw [ka, hf.i rfl]; exact h2, by rw [kb, hf.i rfl]; exact h3, by rw [k9, hf.i rfl]; exact h4, ?_, ?_, ?_, ?_, ?_, fun m hm => ?_, by rw [k8, hf.i rfl]; exact h11, fun i hi => ?_⟩
  · rw [k3]
    exact PR_add h5 e1 e2 e3 da db
  · rw [k4]
    exact PR_fr h6 hf (fun _ => ⟨rfl, rfl, rfl⟩) (fun i _ => ⟨dd 3 i (by decide) (by decide) (by decide), dd 4 i (by decide) (by decide) (by decide)⟩)
  · rw [k5]
    exact PR_fr h7 hf (fun _ => ⟨rfl, rfl, rfl⟩) (fun i _ => ⟨dd 6 i (by decide) (by decide) (by decide), dd 7 i (by decide) (by decide) (by decide)⟩)
  · rw [k6]
    exact PR_fr h8 hf (fun _ => ⟨rfl, rfl, rfl⟩) (fun i _ => ⟨dd 8 i (by decide) (by decide) (by decide), dd 9 i (by decide) (by decide) (by decide)⟩)
  · rw [k7]
    exact PR_fr h9 hf (fun _ => ⟨rfl, rfl, rfl⟩) (fun i _ => ⟨dd 10 i (by decide) (by decide) (by decide), dd 11 i (by decide) (by decide) (by decide)⟩)
  · rw [k4] at hm
    rw [show mw Q m = mw R m from dd 5 m (by decide) (by decide) (by decide), hf.i rfl]
    exact h10 m hm
  · rw [k8] at hi
    rw [hf.i rfl, hf.i rfl, hf.i rfl, show ak Q i = ak R i from dd 12 i (by decide) (by decide) (by decide), show aa Q i = aa R i from dd 13 i (by decide) (by decide) (by decide), show ab Q i = ab R i from dd 14 i (by decide) (by decide) (by decide), show ay Q i = ay R i from dd 15 i (by decide) (by decide) (by decide)]
    exact h12 i hi
theorem HC_aM {σ σ' : St} {R : RF} {x y w : Nat} (h : HC σ 1 R) (hf : Fr lqM σ σ') (e1 : gI σ' 32 6 2 = nI (nM R + 1)) (e2 : ∀ j, j < nM R → gI σ' 105 6 j = gI σ 105 6 j ∧ gI σ' 113 6 j = gI σ 113 6 j) (e3 : gI σ' 105 6 (nM R) = nI x ∧ gI σ' 113 6 (nM R) = nI y) (e4 : ∀ j, j < nM R → gI σ' 3705 1 j = gI σ 3705 1 j) (e5 : gI σ' 3705 1 (nM R) = nI w) : HC σ' 1 (R1 (A2 R 3 4 4 x y) 5 (nM R) w) := by
  obtain ⟨h1, h2, h3, h4, h5, h6, h7, h8, h9, h10, h11, h12⟩ := h
  have q : ∀ j, (R1 (A2 R 3 4 4 x y) 5 (nM R) w) 0 j = if j = 4 then R 0 4 + 1 else R 0 j := fun j => by
    rw [R1_x _ (by decide), A2_0 (by decide) (by decide)]
  have da : ∀ j, (R1 (A2 R 3 4 4 x y) 5 (nM R) w) 3 j = if j = nM R then x else R 3 j := fun j => by
    rw [R1_x _ (by decide), A2_a (by decide) (by decide)]
  have db : ∀ j, (R1 (A2 R 3 4 4 x y) 5 (nM R) w) 4 j = if j = nM R then y else R 4 j := fun j => by
    rw [R1_x _ (by decide), A2_b (by decide) (by decide)]
  have dw : ∀ j, (R1 (A2 R 3 4 4 x y) 5 (nM R) w) 5 j = if j = nM R then w else R 5 j := fun j => by
    rw [R1_a, A2_d (by decide) (by decide) (by decide)]
  have dd : ∀ d j, d ≠ 0 → d ≠ 3 → d ≠ 4 → d ≠ 5 → (R1 (A2 R 3 4 4 x y) 5 (nM R) w) d j = R d j := fun d j g0 g1 g2 g3 => by
    rw [R1_x _ g3, A2_d g0 g1 g2]
  generalize (R1 (A2 R 3 4 4 x y) 5 (nM R) w) = Q at q da db dw dd ⊢
  have k3 : nP Q = nP R := q 3
  have k4 : nM Q = nM R + 1 := q 4
  have k5 : nF Q = nF R := q 5
  have k6 : nW Q = nW R := q 6
  have k7 : nL Q = nL R := q 7
  have k8 : nA Q = nA R := q 8
  have k9 : nN Q = nN R := q 9
  have k0 : yr Q = yr R := q 0
  have ka : lw Q = lw R := q 1
  have kb : od Q = od R := q 2
  refine ⟨by rw [k0, hf.i rfl]; exact h1, by rw [ka, hf.i rfl]; exact h2, by rw [kb, hf.i rfl]; exact h3, by rw [k9, hf.i rfl]; exact h4, ?_, ?_, ?_, ?_, ?_, fun m hm => ?_, by rw [k8, hf.i rfl]; exact h11, fun i hi => ?_⟩
  · rw [k3]
    exact PR_fr h5 hf (fun _ => ⟨rfl, rfl, rfl⟩) (fun i _ => ⟨dd 1 i (by decide) (by decide) (by decide) (by decide), dd 2 i (by decide) (by decide) (by decide) (by decide)⟩)
  · rw [k4]
    exact PR_add h6 e1 e2 e3 da db
  · rw [k5]
    exact PR_fr h7 hf (fun _ => ⟨rfl, rfl, rfl⟩) (fun i _ => ⟨dd 6 i (by decide) (by decide) (by decide) (by decide), dd 7 i (by decide) (by decide) (by decide) (by decide)⟩)
  · rw [k6]
    exact PR_fr h8 hf (fun _ => ⟨rfl, rfl, rfl⟩) (fun i _ => ⟨dd 8 i (by decide) (by decide) (by decide) (by decide), dd 9 i (by decide) (by decide) (by decide) (by decide)⟩)
  · rw [k7]
    exact PR_fr h9 hf (fun _ => ⟨rfl, rfl, rfl⟩) (fun i _ => ⟨dd 10 i (by decide) (by decide) (by decide) (by decide), dd 11 i (by decide) (by decide) (by decide) (by decide)⟩)
  · rw [k4] at hm
    show gI σ' 3705 1 m = nI (Q 5 m)
    rw [dw]
    by_cases hq : m = nM R
    · rw [if_pos hq, hq]; exact e5
    · rw [if_neg hq, e4 m (by omega)]; exact h10 m (by omega)
  · rw [k8] at hi
    rw [hf.i rfl, hf.i rfl, hf.i rfl, show ak Q i = ak R i from dd 12 i (by decide) (by decide) (by decide) (by decide), show aa Q i = aa R i from dd 13 i (by decide) (by decide) (by decide) (by decide), show ab Q i = ab R i from dd 14 i (by decide) (by decide) (by decide) (by decide), show ay Q i = ay R i from dd 15 i (by decide) (by decide) (by decide) (by decide)]
    exact h12 i hi
theorem HC_aF {σ σ' : St} {R : RF} {x y : Nat} (h : HC σ 1 R) (hf : Fr (lqS 7) σ σ') (e1 : gI σ' 32 7 2 = nI (nF R + 1)) (e2 : ∀ j, j < nF R → gI σ' 105 7 j = gI σ 105 7 j ∧ gI σ' 113 7 j = gI σ 113 7 j) (e3 : gI σ' 105 7 (nF R) = nI x ∧ gI σ' 113 7 (nF R) = nI y) : HC σ' 1 (A2 R 6 7 5 x y) := by
  obtain ⟨h1, h2, h3, h4, h5, h6, h7, h8, h9, h10, h11, h12⟩ := h
  have q : ∀ j, (A2 R 6 7 5 x y) 0 j = if j = 5 then R 0 5 + 1 else R 0 j := fun j => by
    rw [A2_0 (by decide) (by decide)]
  have da : ∀ j, (A2 R 6 7 5 x y) 6 j = if j = nF R then x else R 6 j := fun j => by
    rw [A2_a (by decide) (by decide)]
  have db : ∀ j, (A2 R 6 7 5 x y) 7 j = if j = nF R then y else R 7 j := fun j => by
    rw [A2_b (by decide) (by decide)]
  have dd : ∀ d j, d ≠ 0 → d ≠ 6 → d ≠ 7 → (A2 R 6 7 5 x y) d j = R d j := fun d j g0 g1 g2 => A2_d g0 g1 g2 j
  generalize (A2 R 6 7 5 x y) = Q at q da db dd ⊢
  have k3 : nP Q = nP R := q 3
  have k4 : nM Q = nM R := q 4
  have k5 : nF Q = nF R + 1 := q 5
  have k6 : nW Q = nW R := q 6
  have k7 : nL Q = nL R := q 7
  have k8 : nA Q = nA R := q 8
  have k9 : nN Q = nN R := q 9
  have k0 : yr Q = yr R := q 0
  have ka : lw Q = lw R := q 1
  have kb : od Q = od R := q 2
  refine ⟨by rw [k0, hf.i rfl]; exact h1, by rw [ka, hf.i rfl]; exact h2, by rw [kb, hf.i rfl]; exact h3, by rw [k9, hf.i rfl]; exact h4, ?_, ?_, ?_, ?_, ?_, fun m hm => ?_, by rw [k8, hf.i rfl]; exact h11, fun i hi => ?_⟩
  · rw [k3]
    exact PR_fr h5 hf (fun _ => ⟨rfl, rfl, rfl⟩) (fun i _ => ⟨dd 1 i (by decide) (by decide) (by decide), dd 2 i (by decide) (by decide) (by decide)⟩)
  · rw [k4]
    exact PR_fr h6 hf (fun _ => ⟨rfl, rfl, rfl⟩) (fun i _ => ⟨dd 3 i (by decide) (by decide) (by decide), dd 4 i (by decide) (by decide) (by decide)⟩)
  · rw [k5]
    exact PR_add h7 e1 e2 e3 da db
  · rw [k6]
    exact PR_fr h8 hf (fun _ => ⟨rfl, rfl, rfl⟩) (fun i _ => ⟨dd 8 i (by decide) (by decide) (by decide), dd 9 i (by decide) (by decide) (by decide)⟩)
  · rw [k7]
    exact PR_fr h9 hf (fun _ => ⟨rfl, rfl, rfl⟩) (fun i _ => ⟨dd 10 i (by decide) (by decide) (by decide), dd 11 i (by decide) (by decide) (by decide)⟩)
  · rw [k4] at hm
    rw [show mw Q m = mw R m from dd 5 m (by decide) (by decide) (by decide), hf.i rfl]
    exact h10 m hm
  · rw [k8] at hi
    rw [hf.i rfl, hf.i rfl, hf.i rfl, show ak Q i = ak R i from dd 12 i (by decide) (by decide) (by decide), show aa Q i = aa R i from dd 13 i (by decide) (by decide) (by decide), show ab Q i = ab R i from dd 14 i (by decide) (by decide) (by decide), show ay Q i = ay R i from dd 15 i (by decide) (by decide) (by decide)]
    exact h12 i hi
theorem HC_aW {σ σ' : St} {R : RF} {x y : Nat} (h : HC σ 1 R) (hf : Fr (lqS 8) σ σ') (e1 : gI σ' 32 8 2 = nI (nW R + 1)) (e2 : ∀ j, j < nW R → gI σ' 105 8 j = gI σ 105 8 j ∧ gI σ' 113 8 j = gI σ 113 8 j) (e3 : gI σ' 105 8 (nW R) = nI x ∧ gI σ' 113 8 (nW R) = nI y) : HC σ' 1 (A2 R 8 9 6 x y) := by
  obtain ⟨h1, h2, h3, h4, h5, h6, h7, h8, h9, h10, h11, h12⟩ := h
  have q : ∀ j, (A2 R 8 9 6 x y) 0 j = if j = 6 then R 0 6 + 1 else R 0 j := fun j => by
    rw [A2_0 (by decide) (by decide)]
  have da : ∀ j, (A2 R 8 9 6 x y) 8 j = if j = nW R then x else R 8 j := fun j => by
    rw [A2_a (by decide) (by decide)]
  have db : ∀ j, (A2 R 8 9 6 x y) 9 j = if j = nW R then y else R 9 j := fun j => by
    rw [A2_b (by decide) (by decide)]
  have dd : ∀ d j, d ≠ 0 → d ≠ 8 → d ≠ 9 → (A2 R 8 9 6 x y) d j = R d j := fun d j g0 g1 g2 => A2_d g0 g1 g2 j
  generalize (A2 R 8 9 6 x y) = Q at q da db dd ⊢
  have k3 : nP Q = nP R := q 3
  have k4 : nM Q = nM R := q 4
  have k5 : nF Q = nF R := q 5
  have k6 : nW Q = nW R + 1 := q 6
  have k7 : nL Q = nL R := q 7
  have k8 : nA Q = nA R := q 8
  have k9 : nN Q = nN R := q 9
  have k0 : yr Q = yr R := q 0
  have ka : lw Q = lw R := q 1
  have kb : od Q = od R := q 2
  refine ⟨by rw [k0, hf.i rfl]; exact h1, by rw [ka, hf.i rfl]; exact h2, by rw [kb, hf.i rfl]; exact h3, by rw [k9, hf.i rfl]; exact h4, ?_, ?_, ?_, ?_, ?_, fun m hm => ?_, by rw [k8, hf.i rfl]; exact h11, fun i hi => ?_⟩
  · rw [k3]
    exact PR_fr h5 hf (fun _ => ⟨rfl, rfl, rfl⟩) (fun i _ => ⟨dd 1 i (by decide) (by decide) (by decide), dd 2 i (by decide) (by decide) (by decide)⟩)
  · rw [k4]
    exact PR_fr h6 hf (fun _ => ⟨rfl, rfl, rfl⟩) (fun i _ => ⟨dd 3 i (by decide) (by decide) (by decide), dd 4 i (by decide) (by decide) (by decide)⟩)
  · rw [k5]
    exact PR_fr h7 hf (fun _ => ⟨rfl, rfl, rfl⟩) (fun i _ => ⟨dd 6 i (by decide) (by decide) (by decide), dd 7 i (by decide) (by decide) (by decide)⟩)
  · rw [k6]
    exact PR_add h8 e1 e2 e3 da db
  · rw [k7]
    exact PR_fr h9 hf (fun _ => ⟨rfl, rfl, rfl⟩) (fun i _ => ⟨dd 10 i (by decide) (by decide) (by decide), dd 11 i (by decide) (by decide) (by decide)⟩)
  · rw [k4] at hm
    rw [show mw Q m = mw R m from dd 5 m (by decide) (by decide) (by decide), hf.i rfl]
    exact h10 m hm
  · rw [k8] at hi
    rw [hf.i rfl, hf.i rfl, hf.i rfl, show ak Q i = ak R i from dd 12 i (by decide) (by decide) (by decide), show aa Q i = aa R i from dd 13 i (by decide) (by decide) (by decide), show ab Q i = ab R i from dd 14 i (by decide) (by decide) (by decide), show ay Q i = ay R i from dd 15 i (by decide) (by decide) (by decide)]
    exact h12 i hi
theorem HC_aL {σ σ' : St} {R : RF} {x y : Nat} (h : HC σ 1 R) (hf : Fr (lqS 9) σ σ') (e1 : gI σ' 32 9 2 = nI (nL R + 1)) (e2 : ∀ j, j < nL R → gI σ' 105 9 j = gI σ 105 9 j ∧ gI σ' 113 9 j = gI σ 113 9 j) (e3 : gI σ' 105 9 (nL R) = nI x ∧ gI σ' 113 9 (nL R) = nI y) : HC σ' 1 (A2 R 10 11 7 x y) := by
  obtain ⟨h1, h2, h3, h4, h5, h6, h7, h8, h9, h10, h11, h12⟩ := h
  have q : ∀ j, (A2 R 10 11 7 x y) 0 j = if j = 7 then R 0 7 + 1 else R 0 j := fun j => by
    rw [A2_0 (by decide) (by decide)]
  have da : ∀ j, (A2 R 10 11 7 x y) 10 j = if j = nL R then x else R 10 j := fun j => by
    rw [A2_a (by decide) (by decide)]
  have db : ∀ j, (A2 R 10 11 7 x y) 11 j = if j = nL R then y else R 11 j := fun j => by
    rw [A2_b (by decide) (by decide)]
  have dd : ∀ d j, d ≠ 0 → d ≠ 10 → d ≠ 11 → (A2 R 10 11 7 x y) d j = R d j := fun d j g0 g1 g2 => A2_d g0 g1 g2 j
  generalize (A2 R 10 11 7 x y) = Q at q da db dd ⊢
  have k3 : nP Q = nP R := q 3
  have k4 : nM Q = nM R := q 4
  have k5 : nF Q = nF R := q 5
  have k6 : nW Q = nW R := q 6
  have k7 : nL Q = nL R + 1 := q 7
  have k8 : nA Q = nA R := q 8
  have k9 : nN Q = nN R := q 9
  have k0 : yr Q = yr R := q 0
  have ka : lw Q = lw R := q 1
  have kb : od Q = od R := q 2
  refine ⟨by rw [k0, hf.i rfl]; exact h1, by rw [ka, hf.i rfl]; exact h2, by rw [kb, hf.i rfl]; exact h3, by rw [k9, hf.i rfl]; exact h4, ?_, ?_, ?_, ?_, ?_, fun m hm => ?_, by rw [k8, hf.i rfl]; exact h11, fun i hi => ?_⟩
  · rw [k3]
    exact PR_fr h5 hf (fun _ => ⟨rfl, rfl, rfl⟩) (fun i _ => ⟨dd 1 i (by decide) (by decide) (by decide), dd 2 i (by decide) (by decide) (by decide)⟩)
  · rw [k4]
    exact PR_fr h6 hf (fun _ => ⟨rfl, rfl, rfl⟩) (fun i _ => ⟨dd 3 i (by decide) (by decide) (by decide), dd 4 i (by decide) (by decide) (by decide)⟩)
  · rw [k5]
    exact PR_fr h7 hf (fun _ => ⟨rfl, rfl, rfl⟩) (fun i _ => ⟨dd 6 i (by decide) (by decide) (by decide), dd 7 i (by decide) (by decide) (by decide)⟩)
  · rw [k6]
    exact PR_fr h8 hf (fun _ => ⟨rfl, rfl, rfl⟩) (fun i _ => ⟨dd 8 i (by decide) (by decide) (by decide), dd 9 i (by decide) (by decide) (by decide)⟩)
  · rw [k7]
    exact PR_add h9 e1 e2 e3 da db
  · rw [k4] at hm
    rw [show mw Q m = mw R m from dd 5 m (by decide) (by decide) (by decide), hf.i rfl]
    exact h10 m hm
  · rw [k8] at hi
    rw [hf.i rfl, hf.i rfl, hf.i rfl, show ak Q i = ak R i from dd 12 i (by decide) (by decide) (by decide), show aa Q i = aa R i from dd 13 i (by decide) (by decide) (by decide), show ab Q i = ab R i from dd 14 i (by decide) (by decide) (by decide), show ay Q i = ay R i from dd 15 i (by decide) (by decide) (by decide)]
    exact h12 i hi
