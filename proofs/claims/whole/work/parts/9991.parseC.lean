/-! THE TEXT: what a line leaves is as it must be -/
/-- a roof that is being told: nothing done -/
def WD (R : RF) (p : Nat) : Prop := WF R ∧ nA R = 0 ∧ nN R ≤ p
/-- numbers of a roof with one more line -/
theorem N9_0 (R : RF) (N j : Nat) : R1 R 0 9 N 0 j = if j = 9 then N else R 0 j := R1_a R 0 9 N j
theorem N9_x (R : RF) (N : Nat) {d : Nat} (hd : d ≠ 0) (j : Nat) : R1 R 0 9 N d j = R d j := R1_x R hd j
theorem WF_rf {R : RF} (h : WF R) (h0 : nN R = 0) {a b c : Nat} (ha : a ≤ 12) (hb : b ≤ 3) (hc : c ≤ 10) : WF (R1 (R1 (R1 (R1 R 0 0 a) 0 1 b) 0 2 c) 0 9 1) := by
  obtain ⟨⟨b0, b1, b2, b3, b4, b5, b6, b7, b8, b9⟩, w0, w1, w2, w3, w4, w5, w6, w7⟩ := h
  obtain ⟨z0, z1, z2, z3, z4, z5, z6⟩ := w0 h0
  have q : ∀ j, R1 (R1 (R1 (R1 R 0 0 a) 0 1 b) 0 2 c) 0 9 1 0 j = if j = 9 then 1 else if j = 2 then c else if j = 1 then b else if j = 0 then a else R 0 j := fun j => by
    rw [N9_0, R1_a, R1_a, R1_a]
  have q3 : R1 (R1 (R1 (R1 R 0 0 a) 0 1 b) 0 2 c) 0 9 1 0 3 = 0 := (q 3).trans z0
  have q4 : R1 (R1 (R1 (R1 R 0 0 a) 0 1 b) 0 2 c) 0 9 1 0 4 = 0 := (q 4).trans z1
  have q5 : R1 (R1 (R1 (R1 R 0 0 a) 0 1 b) 0 2 c) 0 9 1 0 5 = 0 := (q 5).trans z2
  have q6 : R1 (R1 (R1 (R1 R 0 0 a) 0 1 b) 0 2 c) 0 9 1 0 6 = 0 := (q 6).trans z3
  have q7 : R1 (R1 (R1 (R1 R 0 0 a) 0 1 b) 0 2 c) 0 9 1 0 7 = 0 := (q 7).trans z4
  have q8 : R1 (R1 (R1 (R1 R 0 0 a) 0 1 b) 0 2 c) 0 9 1 0 8 = 0 := (q 8).trans z5
  have q9 : R1 (R1 (R1 (R1 R 0 0 a) 0 1 b) 0 2 c) 0 9 1 0 9 = 1 := q 9
  have q0 : R1 (R1 (R1 (R1 R 0 0 a) 0 1 b) 0 2 c) 0 9 1 0 0 = a := q 0
  have qa : R1 (R1 (R1 (R1 R 0 0 a) 0 1 b) 0 2 c) 0 9 1 0 1 = b := q 1
  have qb : R1 (R1 (R1 (R1 R 0 0 a) 0 1 b) 0 2 c) 0 9 1 0 2 = c := q 2
  refine ⟨⟨by omega, by omega, by omega, by omega, by omega, by omega, by omega, by omega, by omega, by omega⟩, fun z => by omega, fun p hp => ?_, fun m hm => ?_, fun f hf => ?_, fun w hw => ?_, fun l hl => ?_, fun l k hl => ?_, fun i hi => ?_⟩
  · rw [q3] at hp; omega
  · rw [q4] at hm; omega
  · rw [q5] at hf; omega
  · rw [q6] at hw; omega
  · rw [q7] at hl; omega
  · rw [q7] at hl; omega
  · rw [q8] at hi; omega
/-- what a line adds; the numbers -/
theorem AN_0 {R : RF} {a b c x y : Nat} (ha : a ≠ 0) (hb : b ≠ 0) (hc : c ≠ 9) (N j : Nat) : R1 (A2 R a b c x y) 0 9 N 0 j = if j = 9 then N else if j = c then R 0 c + 1 else R 0 j := by
  rw [N9_0, A2_0 ha hb]
theorem WF_P {R : RF} (h : WF R) (hA : nA R = 0) {N : Nat} (hN : 0 < N ∧ N ≤ 700) (hn : nP R < 6) {x y : Nat} (hx : x ≤ 30) (hy : y ≤ 30) (ht : tkB R x y = false) : WF (R1 (A2 R 1 2 3 x y) 0 9 N) := by
  obtain ⟨⟨b0, b1, b2, b3, b4, b5, b6, b7, b8, b9⟩, w0, w1, w2, w3, w4, w5, w6, w7⟩ := h
  unfold tkB at ht
  rw [Bool.or_eq_false_iff, Bool.or_eq_false_iff] at ht
  have q : ∀ j, R1 (A2 R 1 2 3 x y) 0 9 N 0 j = if j = 9 then N else if j = 3 then R 0 3 + 1 else R 0 j := AN_0 (by decide) (by decide) (by decide) N
  have q0 : R1 (A2 R 1 2 3 x y) 0 9 N 0 0 = R 0 0 := q 0
  have qa : R1 (A2 R 1 2 3 x y) 0 9 N 0 1 = R 0 1 := q 1
  have qb : R1 (A2 R 1 2 3 x y) 0 9 N 0 2 = R 0 2 := q 2
  have q3 : R1 (A2 R 1 2 3 x y) 0 9 N 0 3 = R 0 3 + 1 := q 3
  have q4 : R1 (A2 R 1 2 3 x y) 0 9 N 0 4 = R 0 4 := q 4
  have q5 : R1 (A2 R 1 2 3 x y) 0 9 N 0 5 = R 0 5 := q 5
  have q6 : R1 (A2 R 1 2 3 x y) 0 9 N 0 6 = R 0 6 := q 6
  have q7 : R1 (A2 R 1 2 3 x y) 0 9 N 0 7 = R 0 7 := q 7
  have q8 : R1 (A2 R 1 2 3 x y) 0 9 N 0 8 = R 0 8 := q 8
  have q9 : R1 (A2 R 1 2 3 x y) 0 9 N 0 9 = N := q 9
  have d1 : ∀ j, R1 (A2 R 1 2 3 x y) 0 9 N 1 j = if j = R 0 3 then x else R 1 j := fun j => (N9_x _ N (by decide) j).trans (A2_a (by decide) (by decide) j)
  have d2 : ∀ j, R1 (A2 R 1 2 3 x y) 0 9 N 2 j = if j = R 0 3 then y else R 2 j := fun j => (N9_x _ N (by decide) j).trans (A2_b (by decide) (by decide) j)
  have dd : ∀ d j, d ≠ 0 → d ≠ 1 → d ≠ 2 → R1 (A2 R 1 2 3 x y) 0 9 N d j = R d j := fun d j h0 h1 h2 => (N9_x _ N h0 j).trans (A2_d h0 h1 h2 j)
  have z3 := dd 3
  have z4 := dd 4
  have z5 := dd 5
  have z6 := dd 6
  have z7 := dd 7
  have z8 := dd 8
  have z9 := dd 9
  have z10 := dd 10
  have z11 := dd 11
  refine ⟨⟨by omega, by omega, by omega, by omega, by omega, by omega, by omega, by omega, by omega, by omega⟩, fun z => by omega, fun p hp => ?_, fun m hm => ?_, fun f hf => ?_, fun w hw => ?_, fun l hl => ?_, fun l k hl hk => ?_, fun i hi => ?_⟩
  · show R1 (A2 R 1 2 3 x y) 0 9 N 1 p ≤ 30 ∧ R1 (A2 R 1 2 3 x y) 0 9 N 2 p ≤ 30
    rw [d1, d2]
    rw [q3] at hp
    by_cases hq : p = R 0 3
    · rw [if_pos hq, if_pos hq]; exact ⟨hx, hy⟩
    · rw [if_neg hq, if_neg hq]; exact w1 p (by show p < R 0 3; omega)
  · show R1 (A2 R 1 2 3 x y) 0 9 N 3 m ≤ 30 ∧ R1 (A2 R 1 2 3 x y) 0 9 N 4 m ≤ 30 ∧ R1 (A2 R 1 2 3 x y) 0 9 N 5 m ≤ 99
    rw [q4] at hm
    rw [z3 m (by decide) (by decide) (by decide), z4 m (by decide) (by decide) (by decide), z5 m (by decide) (by decide) (by decide)]
    exact w2 m hm
  · show R1 (A2 R 1 2 3 x y) 0 9 N 6 f ≤ 30 ∧ R1 (A2 R 1 2 3 x y) 0 9 N 7 f ≤ 30 ∧ (∀ p, p < R1 (A2 R 1 2 3 x y) 0 9 N 0 3 → ¬ (R1 (A2 R 1 2 3 x y) 0 9 N 6 f = R1 (A2 R 1 2 3 x y) 0 9 N 1 p ∧ R1 (A2 R 1 2 3 x y) 0 9 N 7 f = R1 (A2 R 1 2 3 x y) 0 9 N 2 p)) ∧ (∀ m, m < R1 (A2 R 1 2 3 x y) 0 9 N 0 4 → ¬ (R1 (A2 R 1 2 3 x y) 0 9 N 6 f = R1 (A2 R 1 2 3 x y) 0 9 N 3 m ∧ R1 (A2 R 1 2 3 x y) 0 9 N 7 f = R1 (A2 R 1 2 3 x y) 0 9 N 4 m))
    rw [q5] at hf
    rw [q3, q4, z6 f (by decide) (by decide) (by decide), z7 f (by decide) (by decide) (by decide)]
    obtain ⟨g1, g2, g3, g4⟩ := w3 f hf
    refine ⟨g1, g2, fun p hp => ?_, fun m hm => ?_⟩
    · rw [d1, d2]
      by_cases hq : p = R 0 3
      · rw [if_pos hq, if_pos hq]; exact tk_no ht.2 hf
      · rw [if_neg hq, if_neg hq]; exact g3 p (by show p < R 0 3; omega)
    · rw [z3 m (by decide) (by decide) (by decide), z4 m (by decide) (by decide) (by decide)]
      exact g4 m hm
  · show R1 (A2 R 1 2 3 x y) 0 9 N 8 w < R1 (A2 R 1 2 3 x y) 0 9 N 0 3 ∧ R1 (A2 R 1 2 3 x y) 0 9 N 9 w < R1 (A2 R 1 2 3 x y) 0 9 N 0 3 ∧ R1 (A2 R 1 2 3 x y) 0 9 N 8 w ≠ R1 (A2 R 1 2 3 x y) 0 9 N 9 w
    rw [q6] at hw
    rw [q3, z8 w (by decide) (by decide) (by decide), z9 w (by decide) (by decide) (by decide)]
    obtain ⟨g1, g2, g3⟩ := w4 w hw
    have g1 : R 8 w < R 0 3 := g1
    have g2 : R 9 w < R 0 3 := g2
    exact ⟨by omega, by omega, g3⟩
  · show R1 (A2 R 1 2 3 x y) 0 9 N 10 l < R1 (A2 R 1 2 3 x y) 0 9 N 0 3 ∧ R1 (A2 R 1 2 3 x y) 0 9 N 11 l < R1 (A2 R 1 2 3 x y) 0 9 N 0 4
    rw [q7] at hl
    rw [q3, q4, z10 l (by decide) (by decide) (by decide), z11 l (by decide) (by decide) (by decide)]
    obtain ⟨g1, g2⟩ := w5 l hl
    have g1 : R 10 l < R 0 3 := g1
    exact ⟨by omega, g2⟩
  · show R1 (A2 R 1 2 3 x y) 0 9 N 10 l = R1 (A2 R 1 2 3 x y) 0 9 N 10 k → l = k
    rw [q7] at hl hk
    rw [z10 l (by decide) (by decide) (by decide), z10 k (by decide) (by decide) (by decide)]
    exact w6 l k hl hk
  · rw [q8] at hi
    have hA : R 0 8 = 0 := hA
    omega
