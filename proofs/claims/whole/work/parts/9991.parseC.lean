/-! THE TEXT: what a line leaves is as it must be -/
/-- more of some kinds -/
theorem WF_ext {R Q : RF} (h : WF R) (hA : nA Q = 0) (hN : 0 < nN Q ∧ nN Q ≤ 700) (hy : yr Q ≤ 12 ∧ lw Q ≤ 3 ∧ od Q ≤ 10)
    (bP : nP R ≤ nP Q ∧ nP Q ≤ 6) (bM : nM R ≤ nM Q ∧ nM Q ≤ 7) (bF : nF R ≤ nF Q ∧ nF Q ≤ 6) (bW : nW R ≤ nW Q ∧ nW Q ≤ 10) (bL : nL R ≤ nL Q ∧ nL Q ≤ 6)
    (oP : ∀ p, p < nP R → px Q p = px R p ∧ py Q p = py R p) (oM : ∀ m, m < nM R → mx Q m = mx R m ∧ my Q m = my R m ∧ mw Q m = mw R m) (oF : ∀ f, f < nF R → fx Q f = fx R f ∧ fy Q f = fy R f) (oW : ∀ w, w < nW R → wa Q w = wa R w ∧ wb Q w = wb R w) (oL : ∀ l, l < nL R → lp Q l = lp R l ∧ lh Q l = lh R l)
    (cP : ∀ p, nP R ≤ p → p < nP Q → px Q p ≤ 30 ∧ py Q p ≤ 30) (cM : ∀ m, nM R ≤ m → m < nM Q → mx Q m ≤ 30 ∧ my Q m ≤ 30 ∧ mw Q m ≤ 99) (cF : ∀ f, nF R ≤ f → f < nF Q → fx Q f ≤ 30 ∧ fy Q f ≤ 30)
    (cFP : ∀ f p, f < nF Q → p < nP Q → (nF R ≤ f ∨ nP R ≤ p) → ¬ (fx Q f = px Q p ∧ fy Q f = py Q p)) (cFM : ∀ f m, f < nF Q → m < nM Q → (nF R ≤ f ∨ nM R ≤ m) → ¬ (fx Q f = mx Q m ∧ fy Q f = my Q m))
    (cW : ∀ w, nW R ≤ w → w < nW Q → wa Q w < nP Q ∧ wb Q w < nP Q ∧ wa Q w ≠ wb Q w) (cL : ∀ l, nL R ≤ l → l < nL Q → lp Q l < nP Q ∧ lh Q l < nM Q) (cLL : ∀ l k, l < nL Q → k < nL Q → (nL R ≤ l ∨ nL R ≤ k) → lp Q l = lp Q k → l = k) : WF Q := by
  obtain ⟨_, _, w1, w2, w3, w4, w5, w6, _⟩ := h
  refine ⟨⟨bP.2, bM.2, bF.2, bW.2, bL.2, by omega, hy.1, hy.2.1, hy.2.2, hN.2⟩, fun z => by omega, fun p hp => ?_, fun m hm => ?_, fun f hf => ⟨?_, ?_, fun p hp => ?_, fun m hm => ?_⟩, fun w hw => ?_, fun l hl => ?_, fun l k hl hk => ?_, fun i hi => by omega⟩
  · by_cases hq : p < nP R
    · rw [(oP p hq).1, (oP p hq).2]; exact w1 p hq
    · exact cP p (by omega) hp
  · by_cases hq : m < nM R
    · rw [(oM m hq).1, (oM m hq).2.1, (oM m hq).2.2]; exact w2 m hq
    · exact cM m (by omega) hm
  · by_cases hq : f < nF R
    · rw [(oF f hq).1]; exact (w3 f hq).1
    · exact (cF f (by omega) hf).1
  · by_cases hq : f < nF R
    · rw [(oF f hq).2]; exact (w3 f hq).2.1
    · exact (cF f (by omega) hf).2
  · by_cases hq : f < nF R ∧ p < nP R
    · rw [(oF f hq.1).1, (oF f hq.1).2, (oP p hq.2).1, (oP p hq.2).2]; exact (w3 f hq.1).2.2.1 p hq.2
    · exact cFP f p hf hp (by omega)
  · by_cases hq : f < nF R ∧ m < nM R
    · rw [(oF f hq.1).1, (oF f hq.1).2, (oM m hq.2).1, (oM m hq.2).2.1]; exact (w3 f hq.1).2.2.2 m hq.2
    · exact cFM f m hf hm (by omega)
  · by_cases hq : w < nW R
    · have g := w4 w hq
      rw [(oW w hq).1, (oW w hq).2]
      exact ⟨by omega, by omega, g.2.2⟩
    · exact cW w (by omega) hw
  · by_cases hq : l < nL R
    · have g := w5 l hq
      rw [(oL l hq).1, (oL l hq).2]
      exact ⟨by omega, by omega⟩
    · exact cL l (by omega) hl
  · by_cases hq : l < nL R ∧ k < nL R
    · rw [(oL l hq.1).1, (oL k hq.2).1]; exact w6 l k hq.1 hq.2
    · exact cLL l k hl hk (by omega)
theorem N9_0 (R : RF) (N j : Nat) : R1 R 0 9 N 0 j = if j = 9 then N else R 0 j := R1_a R 0 9 N j
theorem N9_x (R : RF) (N : Nat) {d : Nat} (hd : d ≠ 0) (j : Nat) : R1 R 0 9 N d j = R d j := R1_x R hd j
theorem AN_0 {R : RF} {a b c x y : Nat} (ha : a ≠ 0) (hb : b ≠ 0) (N j : Nat) : R1 (A2 R a b c x y) 0 9 N 0 j = if j = 9 then N else if j = c then R 0 c + 1 else R 0 j := by
  rw [N9_0, A2_0 ha hb]
theorem AN_a {R : RF} {a b c x y : Nat} (ha : a ≠ 0) (hab : a ≠ b) (N j : Nat) : R1 (A2 R a b c x y) 0 9 N a j = if j = R 0 c then x else R a j := (N9_x _ N ha j).trans (A2_a ha hab j)
theorem AN_b {R : RF} {a b c x y : Nat} (hb : b ≠ 0) (hab : a ≠ b) (N j : Nat) : R1 (A2 R a b c x y) 0 9 N b j = if j = R 0 c then y else R b j := (N9_x _ N hb j).trans (A2_b hb hab j)
theorem AN_d {R : RF} {a b c x y d : Nat} (h0 : d ≠ 0) (ha : d ≠ a) (hb : d ≠ b) (N j : Nat) : R1 (A2 R a b c x y) 0 9 N d j = R d j := (N9_x _ N h0 j).trans (A2_d h0 ha hb j)
theorem if_e {c : Prop} [Decidable c] {x y : Nat} (h : c) : (if c then x else y) = x := if_pos h
theorem if_n {c : Prop} [Decidable c] {x y : Nat} (h : ¬ c) : (if c then x else y) = y := if_neg h
theorem WF_rf {R : RF} (h : WF R) (h0 : nN R = 0) {a b c : Nat} (ha : a ≤ 12) (hb : b ≤ 3) (hc : c ≤ 10) : WF (R1 (R1 (R1 (R1 R 0 0 a) 0 1 b) 0 2 c) 0 9 1) := by
  obtain ⟨z0, z1, z2, z3, z4, z5, z6⟩ := h.2.1 h0
  have q : ∀ j, R1 (R1 (R1 (R1 R 0 0 a) 0 1 b) 0 2 c) 0 9 1 0 j = if j = 9 then 1 else if j = 2 then c else if j = 1 then b else if j = 0 then a else R 0 j := fun j => by
    rw [N9_0, R1_a, R1_a, R1_a]
  have dd : ∀ d j, d ≠ 0 → R1 (R1 (R1 (R1 R 0 0 a) 0 1 b) 0 2 c) 0 9 1 d j = R d j := fun d j hd => by
    rw [N9_x _ _ hd, R1_x _ hd, R1_x _ hd, R1_x _ hd]
  generalize R1 (R1 (R1 (R1 R 0 0 a) 0 1 b) 0 2 c) 0 9 1 = Q at q dd
  have q0 : yr Q = a := q 0
  have q1 : lw Q = b := q 1
  have q2 : od Q = c := q 2
  have q3 : nP Q = nP R := q 3
  have q4 : nM Q = nM R := q 4
  have q5 : nF Q = nF R := q 5
  have q6 : nW Q = nW R := q 6
  have q7 : nL Q = nL R := q 7
  have q8 : nA Q = nA R := q 8
  have q9 : nN Q = 1 := q 9
  have hb' := h.1
  unfold WB at hb'
  exact WF_ext h (by omega) (by omega) ⟨by omega, by omega, by omega⟩ ⟨by omega, by omega⟩ ⟨by omega, by omega⟩ ⟨by omega, by omega⟩ ⟨by omega, by omega⟩ ⟨by omega, by omega⟩
    (fun p _ => ⟨dd 1 p (by decide), dd 2 p (by decide)⟩) (fun m _ => ⟨dd 3 m (by decide), dd 4 m (by decide), dd 5 m (by decide)⟩) (fun f _ => ⟨dd 6 f (by decide), dd 7 f (by decide)⟩) (fun w _ => ⟨dd 8 w (by decide), dd 9 w (by decide)⟩) (fun l _ => ⟨dd 10 l (by decide), dd 11 l (by decide)⟩)
    (fun p h1 h2 => by omega) (fun p h1 h2 => by omega) (fun p h1 h2 => by omega) (fun f p h1 h2 h3 => by omega) (fun f p h1 h2 h3 => by omega) (fun p h1 h2 => by omega) (fun p h1 h2 => by omega) (fun f p h1 h2 h3 => by omega)
theorem WF_P {R : RF} (h : WF R) (hA : nA R = 0) {N : Nat} (hN : 0 < N ∧ N ≤ 700) (hn : nP R < 6) {x y : Nat} (hx : x ≤ 30) (hy : y ≤ 30) (ht : tkB R x y = false) : WF (R1 (A2 R 1 2 3 x y) 0 9 N) := by
  unfold tkB at ht
  rw [Bool.or_eq_false_iff, Bool.or_eq_false_iff] at ht
  have q := AN_0 (R := R) (a := 1) (b := 2) (c := 3) (x := x) (y := y) (by decide) (by decide) N
  have d1 := AN_a (R := R) (a := 1) (b := 2) (c := 3) (x := x) (y := y) (by decide) (by decide) N
  have d2 := AN_b (R := R) (a := 1) (b := 2) (c := 3) (x := x) (y := y) (by decide) (by decide) N
  have dd : ∀ d j, d ≠ 0 → d ≠ 1 → d ≠ 2 → R1 (A2 R 1 2 3 x y) 0 9 N d j = R d j := fun d j h0 h1 h2 => AN_d h0 h1 h2 N j
  generalize R1 (A2 R 1 2 3 x y) 0 9 N = Q at q d1 d2 dd
  have q0 : yr Q = yr R := q 0
  have q1 : lw Q = lw R := q 1
  have q2 : od Q = od R := q 2
  have q3 : nP Q = nP R + 1 := q 3
  have q4 : nM Q = nM R := q 4
  have q5 : nF Q = nF R := q 5
  have q6 : nW Q = nW R := q 6
  have q7 : nL Q = nL R := q 7
  have q8 : nA Q = nA R := q 8
  have q9 : nN Q = N := q 9
  have d1 : ∀ j, px Q j = if j = nP R then x else px R j := d1
  have d2 : ∀ j, py Q j = if j = nP R then y else py R j := d2
  have hb' := h.1
  unfold WB at hb'
  exact WF_ext h (by omega) (by omega) ⟨by omega, by omega, by omega⟩ ⟨by omega, by omega⟩ ⟨by omega, by omega⟩ ⟨by omega, by omega⟩ ⟨by omega, by omega⟩ ⟨by omega, by omega⟩
    (fun p hp => ⟨(d1 p).trans (if_n (by omega)), (d2 p).trans (if_n (by omega))⟩) (fun m _ => ⟨dd 3 m (by decide) (by decide) (by decide), dd 4 m (by decide) (by decide) (by decide), dd 5 m (by decide) (by decide) (by decide)⟩) (fun f _ => ⟨dd 6 f (by decide) (by decide) (by decide), dd 7 f (by decide) (by decide) (by decide)⟩) (fun w _ => ⟨dd 8 w (by decide) (by decide) (by decide), dd 9 w (by decide) (by decide) (by decide)⟩) (fun l _ => ⟨dd 10 l (by decide) (by decide) (by decide), dd 11 l (by decide) (by decide) (by decide)⟩)
    (fun p h1 h2 => by rw [d1, d2, if_e (by omega), if_e (by omega)]; exact ⟨hx, hy⟩) (fun p h1 h2 => by omega) (fun p h1 h2 => by omega)
    (fun f p h1 h2 h3 => by rw [d1, d2, if_e (by omega), if_e (by omega), show fx Q f = fx R f from dd 6 f (by decide) (by decide) (by decide), show fy Q f = fy R f from dd 7 f (by decide) (by decide) (by decide)]; exact tk_no ht.2 (by omega)) (fun f p h1 h2 h3 => by omega) (fun p h1 h2 => by omega) (fun p h1 h2 => by omega) (fun f p h1 h2 h3 => by omega)
theorem WF_M {R : RF} (h : WF R) (hA : nA R = 0) {N : Nat} (hN : 0 < N ∧ N ≤ 700) (hn : nM R < 7) {x y w : Nat} (hx : x ≤ 30) (hy : y ≤ 30) (hw : w ≤ 99) (ht : tkB R x y = false) : WF (R1 (R1 (A2 R 3 4 4 x y) 5 (nM R) w) 0 9 N) := by
  unfold tkB at ht
  rw [Bool.or_eq_false_iff, Bool.or_eq_false_iff] at ht
  have q : ∀ j, R1 (R1 (A2 R 3 4 4 x y) 5 (nM R) w) 0 9 N 0 j = if j = 9 then N else if j = 4 then R 0 4 + 1 else R 0 j := fun j => by
    rw [N9_0, R1_x _ (by decide), A2_0 (by decide) (by decide)]
  have d1 : ∀ j, R1 (R1 (A2 R 3 4 4 x y) 5 (nM R) w) 0 9 N 3 j = if j = R 0 4 then x else R 3 j := fun j => by
    rw [N9_x _ _ (by decide), R1_x _ (by decide), A2_a (by decide) (by decide)]
  have d2 : ∀ j, R1 (R1 (A2 R 3 4 4 x y) 5 (nM R) w) 0 9 N 4 j = if j = R 0 4 then y else R 4 j := fun j => by
    rw [N9_x _ _ (by decide), R1_x _ (by decide), A2_b (by decide) (by decide)]
  have d3 : ∀ j, R1 (R1 (A2 R 3 4 4 x y) 5 (nM R) w) 0 9 N 5 j = if j = R 0 4 then w else R 5 j := fun j => by
    rw [N9_x _ _ (by decide), R1_a, A2_d (by decide) (by decide) (by decide)]
  have dd : ∀ d j, d ≠ 0 → d ≠ 3 → d ≠ 4 → d ≠ 5 → R1 (R1 (A2 R 3 4 4 x y) 5 (nM R) w) 0 9 N d j = R d j := fun d j h0 h1 h2 h3 => by
    rw [N9_x _ _ h0, R1_x _ h3, A2_d h0 h1 h2]
  generalize R1 (R1 (A2 R 3 4 4 x y) 5 (nM R) w) 0 9 N = Q at q d1 d2 d3 dd
  have q0 : yr Q = yr R := q 0
  have q1 : lw Q = lw R := q 1
  have q2 : od Q = od R := q 2
  have q3 : nP Q = nP R := q 3
  have q4 : nM Q = nM R + 1 := q 4
  have q5 : nF Q = nF R := q 5
  have q6 : nW Q = nW R := q 6
  have q7 : nL Q = nL R := q 7
  have q8 : nA Q = nA R := q 8
  have q9 : nN Q = N := q 9
  have d1 : ∀ j, mx Q j = if j = nM R then x else mx R j := d1
  have d2 : ∀ j, my Q j = if j = nM R then y else my R j := d2
  have d3 : ∀ j, mw Q j = if j = nM R then w else mw R j := d3
  have hb' := h.1
  unfold WB at hb'
  exact WF_ext h (by omega) (by omega) ⟨by omega, by omega, by omega⟩ ⟨by omega, by omega⟩ ⟨by omega, by omega⟩ ⟨by omega, by omega⟩ ⟨by omega, by omega⟩ ⟨by omega, by omega⟩
    (fun p _ => ⟨dd 1 p (by decide) (by decide) (by decide) (by decide), dd 2 p (by decide) (by decide) (by decide) (by decide)⟩) (fun m hm => ⟨(d1 m).trans (if_n (by omega)), (d2 m).trans (if_n (by omega)), (d3 m).trans (if_n (by omega))⟩) (fun f _ => ⟨dd 6 f (by decide) (by decide) (by decide) (by decide), dd 7 f (by decide) (by decide) (by decide) (by decide)⟩) (fun w _ => ⟨dd 8 w (by decide) (by decide) (by decide) (by decide), dd 9 w (by decide) (by decide) (by decide) (by decide)⟩) (fun l _ => ⟨dd 10 l (by decide) (by decide) (by decide) (by decide), dd 11 l (by decide) (by decide) (by decide) (by decide)⟩)
    (fun p h1 h2 => by omega) (fun p h1 h2 => by rw [d1, d2, d3, if_e (by omega), if_e (by omega), if_e (by omega)]; exact ⟨hx, hy, hw⟩) (fun p h1 h2 => by omega)
    (fun f p h1 h2 h3 => by omega) (fun f p h1 h2 h3 => by rw [d1, d2, if_e (by omega), if_e (by omega), show fx Q f = fx R f from dd 6 f (by decide) (by decide) (by decide) (by decide), show fy Q f = fy R f from dd 7 f (by decide) (by decide) (by decide) (by decide)]; exact tk_no ht.2 (by omega)) (fun p h1 h2 => by omega) (fun p h1 h2 => by omega) (fun f p h1 h2 h3 => by omega)
theorem WF_F {R : RF} (h : WF R) (hA : nA R = 0) {N : Nat} (hN : 0 < N ∧ N ≤ 700) (hn : nF R < 6) {x y : Nat} (hx : x ≤ 30) (hy : y ≤ 30) (ht : tkB R x y = false) : WF (R1 (A2 R 6 7 5 x y) 0 9 N) := by
  unfold tkB at ht
  rw [Bool.or_eq_false_iff, Bool.or_eq_false_iff] at ht
  have q := AN_0 (R := R) (a := 6) (b := 7) (c := 5) (x := x) (y := y) (by decide) (by decide) N
  have d1 := AN_a (R := R) (a := 6) (b := 7) (c := 5) (x := x) (y := y) (by decide) (by decide) N
  have d2 := AN_b (R := R) (a := 6) (b := 7) (c := 5) (x := x) (y := y) (by decide) (by decide) N
  have dd : ∀ d j, d ≠ 0 → d ≠ 6 → d ≠ 7 → R1 (A2 R 6 7 5 x y) 0 9 N d j = R d j := fun d j h0 h1 h2 => AN_d h0 h1 h2 N j
  generalize R1 (A2 R 6 7 5 x y) 0 9 N = Q at q d1 d2 dd
  have q0 : yr Q = yr R := q 0
  have q1 : lw Q = lw R := q 1
  have q2 : od Q = od R := q 2
  have q3 : nP Q = nP R := q 3
  have q4 : nM Q = nM R := q 4
  have q5 : nF Q = nF R + 1 := q 5
  have q6 : nW Q = nW R := q 6
  have q7 : nL Q = nL R := q 7
  have q8 : nA Q = nA R := q 8
  have q9 : nN Q = N := q 9
  have d1 : ∀ j, fx Q j = if j = nF R then x else fx R j := d1
  have d2 : ∀ j, fy Q j = if j = nF R then y else fy R j := d2
  have hb' := h.1
  unfold WB at hb'
  exact WF_ext h (by omega) (by omega) ⟨by omega, by omega, by omega⟩ ⟨by omega, by omega⟩ ⟨by omega, by omega⟩ ⟨by omega, by omega⟩ ⟨by omega, by omega⟩ ⟨by omega, by omega⟩
    (fun p _ => ⟨dd 1 p (by decide) (by decide) (by decide), dd 2 p (by decide) (by decide) (by decide)⟩) (fun m _ => ⟨dd 3 m (by decide) (by decide) (by decide), dd 4 m (by decide) (by decide) (by decide), dd 5 m (by decide) (by decide) (by decide)⟩) (fun f hf => ⟨(d1 f).trans (if_n (by omega)), (d2 f).trans (if_n (by omega))⟩) (fun w _ => ⟨dd 8 w (by decide) (by decide) (by decide), dd 9 w (by decide) (by decide) (by decide)⟩) (fun l _ => ⟨dd 10 l (by decide) (by decide) (by decide), dd 11 l (by decide) (by decide) (by decide)⟩)
    (fun p h1 h2 => by omega) (fun p h1 h2 => by omega) (fun p h1 h2 => by rw [d1, d2, if_e (by omega), if_e (by omega)]; exact ⟨hx, hy⟩)
    (fun f p h1 h2 h3 => by rw [d1, d2, if_e (by omega), if_e (by omega), show px Q p = px R p from dd 1 p (by decide) (by decide) (by decide), show py Q p = py R p from dd 2 p (by decide) (by decide) (by decide)]; exact fun z => tk_no ht.1.1 (show p < nP R by omega) ⟨z.1.symm, z.2.symm⟩)
    (fun f p h1 h2 h3 => by rw [d1, d2, if_e (by omega), if_e (by omega), show mx Q p = mx R p from dd 3 p (by decide) (by decide) (by decide), show my Q p = my R p from dd 4 p (by decide) (by decide) (by decide)]; exact fun z => tk_no ht.1.2 (show p < nM R by omega) ⟨z.1.symm, z.2.symm⟩) (fun p h1 h2 => by omega) (fun p h1 h2 => by omega) (fun f p h1 h2 h3 => by omega)
theorem WF_W {R : RF} (h : WF R) (hA : nA R = 0) {N : Nat} (hN : 0 < N ∧ N ≤ 700) (hn : nW R < 10) {x y : Nat} (hx : x < nP R) (hy : y < nP R) (hxy : x ≠ y) : WF (R1 (A2 R 8 9 6 x y) 0 9 N) := by
  have q := AN_0 (R := R) (a := 8) (b := 9) (c := 6) (x := x) (y := y) (by decide) (by decide) N
  have d1 := AN_a (R := R) (a := 8) (b := 9) (c := 6) (x := x) (y := y) (by decide) (by decide) N
  have d2 := AN_b (R := R) (a := 8) (b := 9) (c := 6) (x := x) (y := y) (by decide) (by decide) N
  have dd : ∀ d j, d ≠ 0 → d ≠ 8 → d ≠ 9 → R1 (A2 R 8 9 6 x y) 0 9 N d j = R d j := fun d j h0 h1 h2 => AN_d h0 h1 h2 N j
  generalize R1 (A2 R 8 9 6 x y) 0 9 N = Q at q d1 d2 dd
  have q0 : yr Q = yr R := q 0
  have q1 : lw Q = lw R := q 1
  have q2 : od Q = od R := q 2
  have q3 : nP Q = nP R := q 3
  have q4 : nM Q = nM R := q 4
  have q5 : nF Q = nF R := q 5
  have q6 : nW Q = nW R + 1 := q 6
  have q7 : nL Q = nL R := q 7
  have q8 : nA Q = nA R := q 8
  have q9 : nN Q = N := q 9
  have d1 : ∀ j, wa Q j = if j = nW R then x else wa R j := d1
  have d2 : ∀ j, wb Q j = if j = nW R then y else wb R j := d2
  have hb' := h.1
  unfold WB at hb'
  exact WF_ext h (by omega) (by omega) ⟨by omega, by omega, by omega⟩ ⟨by omega, by omega⟩ ⟨by omega, by omega⟩ ⟨by omega, by omega⟩ ⟨by omega, by omega⟩ ⟨by omega, by omega⟩
    (fun p _ => ⟨dd 1 p (by decide) (by decide) (by decide), dd 2 p (by decide) (by decide) (by decide)⟩) (fun m _ => ⟨dd 3 m (by decide) (by decide) (by decide), dd 4 m (by decide) (by decide) (by decide), dd 5 m (by decide) (by decide) (by decide)⟩) (fun f _ => ⟨dd 6 f (by decide) (by decide) (by decide), dd 7 f (by decide) (by decide) (by decide)⟩) (fun w hw => ⟨(d1 w).trans (if_n (by omega)), (d2 w).trans (if_n (by omega))⟩) (fun l _ => ⟨dd 10 l (by decide) (by decide) (by decide), dd 11 l (by decide) (by decide) (by decide)⟩)
    (fun p h1 h2 => by omega) (fun p h1 h2 => by omega) (fun p h1 h2 => by omega) (fun f p h1 h2 h3 => by omega) (fun f p h1 h2 h3 => by omega) (fun w h1 h2 => by rw [d1, d2, if_e (by omega), if_e (by omega)]; exact ⟨by omega, by omega, hxy⟩) (fun p h1 h2 => by omega) (fun f p h1 h2 h3 => by omega)
theorem WF_L {R : RF} (h : WF R) (hA : nA R = 0) {N : Nat} (hN : 0 < N ∧ N ≤ 700) (hn : nL R < 6) {x y : Nat} (hx : x < nP R) (hy : y < nM R) (hxl : ∀ l, l < nL R → lp R l ≠ x) : WF (R1 (A2 R 10 11 7 x y) 0 9 N) := by
  have q := AN_0 (R := R) (a := 10) (b := 11) (c := 7) (x := x) (y := y) (by decide) (by decide) N
  have d1 := AN_a (R := R) (a := 10) (b := 11) (c := 7) (x := x) (y := y) (by decide) (by decide) N
  have d2 := AN_b (R := R) (a := 10) (b := 11) (c := 7) (x := x) (y := y) (by decide) (by decide) N
  have dd : ∀ d j, d ≠ 0 → d ≠ 10 → d ≠ 11 → R1 (A2 R 10 11 7 x y) 0 9 N d j = R d j := fun d j h0 h1 h2 => AN_d h0 h1 h2 N j
  generalize R1 (A2 R 10 11 7 x y) 0 9 N = Q at q d1 d2 dd
  have q0 : yr Q = yr R := q 0
  have q1 : lw Q = lw R := q 1
  have q2 : od Q = od R := q 2
  have q3 : nP Q = nP R := q 3
  have q4 : nM Q = nM R := q 4
  have q5 : nF Q = nF R := q 5
  have q6 : nW Q = nW R := q 6
  have q7 : nL Q = nL R + 1 := q 7
  have q8 : nA Q = nA R := q 8
  have q9 : nN Q = N := q 9
  have d1 : ∀ j, lp Q j = if j = nL R then x else lp R j := d1
  have d2 : ∀ j, lh Q j = if j = nL R then y else lh R j := d2
  have hb' := h.1
  unfold WB at hb'
  exact WF_ext h (by omega) (by omega) ⟨by omega, by omega, by omega⟩ ⟨by omega, by omega⟩ ⟨by omega, by omega⟩ ⟨by omega, by omega⟩ ⟨by omega, by omega⟩ ⟨by omega, by omega⟩
    (fun p _ => ⟨dd 1 p (by decide) (by decide) (by decide), dd 2 p (by decide) (by decide) (by decide)⟩) (fun m _ => ⟨dd 3 m (by decide) (by decide) (by decide), dd 4 m (by decide) (by decide) (by decide), dd 5 m (by decide) (by decide) (by decide)⟩) (fun f _ => ⟨dd 6 f (by decide) (by decide) (by decide), dd 7 f (by decide) (by decide) (by decide)⟩) (fun w _ => ⟨dd 8 w (by decide) (by decide) (by decide), dd 9 w (by decide) (by decide) (by decide)⟩) (fun l hl => ⟨(d1 l).trans (if_n (by omega)), (d2 l).trans (if_n (by omega))⟩)
    (fun p h1 h2 => by omega) (fun p h1 h2 => by omega) (fun p h1 h2 => by omega) (fun f p h1 h2 h3 => by omega) (fun f p h1 h2 h3 => by omega) (fun p h1 h2 => by omega) (fun l h1 h2 => by rw [d1, d2, if_e (by omega), if_e (by omega)]; exact ⟨by omega, by omega⟩)
    (fun l k h1 h2 h3 => by
      rw [d1, d1]
      by_cases hl : l = nL R
      · by_cases hk : k = nL R
        · intro _; omega
        · rw [if_e hl, if_n hk]
          exact fun z => absurd z.symm (hxl k (by omega))
      · by_cases hk : k = nL R
        · rw [if_n hl, if_e hk]
          exact fun z => absurd z (hxl l (by omega))
        · omega)
