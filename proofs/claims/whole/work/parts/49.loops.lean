/-! LOOPS OF A KIND; what a method of the reference answers -/
theorem or0 (x : Int32) : x ||| (0 : Int32) = x := Int32.or_zero
/-- a set is gathered -/
theorem lpB {β : Type} {V : Int32 → Nat → β} {P : Nat → Bool} {n : Nat} (hn : n ≤ 30) (h : ∀ j x, j < n → V x j = cond (P j) (V (x ||| ((1 : Int32) <<< (nI j &&& 31))) (j + 1)) (V x (j + 1))) : V 0 0 = V (nI (bn P n)) n :=
  lpU (V := fun j => V (nI (bn P j)) j) (n := n) (fun j hj => by
    show V _ j = V _ (j + 1)
    rw [h j _ hj]
    cases hq : P j
    · rw [cond_false, bn_or0 hq]
    · rw [cond_true, bn_or1 (by omega) hq])
/-- a sum is gathered -/
theorem lpS {β : Type} {V : Int32 → Nat → β} {f : Nat → Nat} {n : Nat} (h : ∀ j x, j < n → V x j = V (x + nI (f j)) (j + 1)) : V 0 0 = V (nI (sm f n)) n :=
  lpU (V := fun j => V (nI (sm f j)) j) (n := n) (fun j hj => by
    show V _ j = V _ (j + 1)
    rw [h j _ hj, nI_add]
    rfl)
/-- some are counted -/
theorem lpC {β : Type} {V : Int32 → Nat → β} {P : Nat → Bool} {n : Nat} (h : ∀ j x, j < n → V x j = cond (P j) (V (x + 1) (j + 1)) (V x (j + 1))) : V 0 0 = V (nI (cn P n)) n :=
  lpU (V := fun j => V (nI (cn P j)) j) (n := n) (fun j hj => by
    show V _ j = V _ (j + 1)
    rw [h j _ hj]
    have e : cn P (j + 1) = cn P j + cond (P j) 1 0 := rfl
    rw [e]
    cases hq : P j
    · rfl
    · rw [cond_true, nI_1]
      rfl)
theorem am_s (P : Nat → Bool) (lt : Nat → Nat → Bool) (n : Nat) : am P lt (n + 1) = (match am P lt n with
    | none => cond (P n) (some n) none
    | some b => cond (P n && lt b n) (some n) (some b)) := rfl
/-- the best is sought -/
theorem lpAs {β : Type} {V : Int32 → Nat → β} {lt : Nat → Nat → Bool} {n : Nat} (h0 : ∀ j, j < n → V (-1) j = V (nI j) (j + 1)) (h1 : ∀ j b, j < n → b < j → V (nI b) j = cond (lt b j) (V (nI j) (j + 1)) (V (nI b) (j + 1))) (j : Nat) (hj : j < n) : V (oI (am (fun _ => true) lt j)) j = V (oI (am (fun _ => true) lt (j + 1))) (j + 1) := by
  rw [am_s]
  cases hq : am (fun _ => true) lt j with
  | none => exact h0 j hj
  | some b =>
    show V (nI b) j = V (oI (cond (true && lt b j) (some j) (some b))) (j + 1)
    rw [h1 j b hj (am_in hq).1, Bool.true_and]
    cases lt b j <;> rfl
theorem lpA {β : Type} {V : Int32 → Nat → β} {lt : Nat → Nat → Bool} {n : Nat} (h0 : ∀ j, j < n → V (-1) j = V (nI j) (j + 1)) (h1 : ∀ j b, j < n → b < j → V (nI b) j = cond (lt b j) (V (nI j) (j + 1)) (V (nI b) (j + 1))) : V (-1) 0 = V (oI (am (fun _ => true) lt n)) n :=
  lpU (V := fun j => V (oI (am (fun _ => true) lt j)) j) (n := n) (fun j hj => lpAs h0 h1 j hj)
/-- from the second on; there is a first -/
theorem lpA1 {β : Type} {V : Int32 → Nat → β} {lt : Nat → Nat → Bool} {n : Nat} (hn : 1 ≤ n) (h1 : ∀ j b, 1 ≤ j → j < n → b < j → V (nI b) j = cond (lt b j) (V (nI j) (j + 1)) (V (nI b) (j + 1))) : V 0 1 = V (oI (am (fun _ => true) lt n)) n :=
  lpK (V := fun j => V (oI (am (fun _ => true) lt j)) j) (n := n) 1 hn (fun j h2 hj => by
    show V _ j = V _ (j + 1)
    rw [am_s]
    cases hq : am (fun _ => true) lt j with
    | none =>
      exfalso
      cases j with
      | zero => omega
      | succ j =>
        rw [am_s] at hq
        revert hq
        cases am (fun _ => true) lt j with
        | none => intro hq; cases hq
        | some b =>
          show cond (true && lt b j) (some j) (some b) = none → False
          cases lt b j <;> (intro hq; cases hq)
    | some b =>
      show V (nI b) j = V (oI (cond (true && lt b j) (some j) (some b))) (j + 1)
      rw [h1 j b h2 hj (am_in hq).1, Bool.true_and]
      cases lt b j <;> rfl)
/-- a search that ends with NONE -/
theorem lpI {V : Nat → Option AR} {P : Nat → Bool} {σ : St} (n : Nat) (h : ∀ j, j < n → V j = cond (P j) (some (some (vI (nI j)), σ)) (V (j + 1))) (he : V n = some (some (vI (-1)), σ)) : V 0 = some (some (vI (fI P n)), σ) := by
  rw [lpF0 (V := V) (P := P) (r := fun j => some (some (vI (nI j)), σ)) n h, he]
  unfold fI
  cases ex P n <;> rfl
/-- a search by which something is asked -/
theorem lpZ {V : Nat → Option AR} {P : Nat → Bool} {σ : St} (n : Nat) (h : ∀ j, j < n → V j = cond (P j) (some (some (vI (tv true)), σ)) (V (j + 1))) (he : V n = some (some (vI (tv false)), σ)) : V 0 = some (some (vI (tv (ex P n))), σ) := by
  rw [lpF0 (V := V) (P := P) (r := fun _ => some (some (vI (tv true)), σ)) n h, he]
  cases ex P n <;> rfl
theorem lpZn {V : Nat → Option AR} {P : Nat → Bool} {σ : St} (n : Nat) (h : ∀ j, j < n → V j = cond (P j) (some (some (vI (tv false)), σ)) (V (j + 1))) (he : V n = some (some (vI (tv true)), σ)) : V 0 = some (some (vI (tv (!ex P n))), σ) := by
  rw [lpF0 (V := V) (P := P) (r := fun _ => some (some (vI (tv false)), σ)) n h, he]
  cases ex P n <;> rfl
theorem ite_n {c : Prop} [d : Decidable c] {β : Type} (x y : β) : (if c then x else y) = cond (decide c) x y := by
  by_cases h : c
  · rw [if_pos h, decide_eq_true h]; rfl
  · rw [if_neg h, decide_eq_false h]; rfl
theorem cond_and {β : Type} (a b : Bool) (x y : β) : cond a (cond b x y) y = cond (a && b) x y := by cases a <;> cases b <;> rfl
theorem inB_e {a : Int32} {n : Nat} (hn : n < 2 ^ 31) (h : inB a n = true) : ∃ k, k < n ∧ a = nI k := ⟨cl a, (inB_t hn h).1, (inB_t hn h).2⟩
theorem yB_e {R : RF} {a : Int32} (hn : yr R < 2 ^ 30) (h : yB R a = true) : ∃ k, k ≤ yr R ∧ a = nI k := by
  unfold yB at h
  rw [Bool.and_eq_true] at h
  obtain ⟨k, h1, h2⟩ := inB_e (by omega) h.2
  exact ⟨k, by omega, h2⟩
/-- a method of the reference answers, and writes nothing but what each call writes anew -/
def RM (m : Nat) (a : List AV) (σ : St) (v : AV) : Prop := ∃ σ', Cc m 0 (vR 96 0 :: a) σ = some (some v, σ') ∧ Fr scM σ σ'
theorem RM_of {m : Nat} {a : List AV} {σ σ1 : St} {b : Bool} {X : Option AR} {v w : Int32} (hc : Cc m 0 (vR 96 0 :: a) σ = cond b X (some (some (vI w), σ1))) (f1 : Fr scM σ σ1) (hX : b = true → ∃ σ3, X = some (some (vI v), σ3) ∧ Fr scM σ1 σ3) : RM m a σ (vI (cond b v w)) := by
  cases b
  · exact ⟨σ1, hc, f1⟩
  · obtain ⟨σ3, h1, h2⟩ := hX rfl
    exact ⟨σ3, hc.trans h1, f1.tr h2⟩
theorem thr_H {σ : St} {R : RF} (h : H0 σ R) : H0 (sI σ 96 0 0 0) R := h.s rfl
theorem thr_F (σ : St) : Fr scM σ (sI σ 96 0 0 0) := Fr.rf.sI rfl
