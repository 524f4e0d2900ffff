/-! THE CLASS: pairs, what is seen -/
def K0 (σ : St) (R : RF) : Prop := WF R ∧ HC σ 0 R
theorem K0.b {σ : St} {R : RF} (h : K0 σ R) : nP R ≤ 6 ∧ nM R ≤ 7 ∧ nF R ≤ 6 ∧ nW R ≤ 10 ∧ nL R ≤ 6 ∧ nA R ≤ 30 ∧ yr R ≤ 12 ∧ lw R ≤ 3 ∧ od R ≤ 10 ∧ nN R ≤ 700 := h.1.1
theorem K0.years {σ : St} {R : RF} (h : K0 σ R) : gI σ 48 0 0 = nI (yr R) := h.2.1
theorem K0.law {σ : St} {R : RF} (h : K0 σ R) : gI σ 48 0 1 = nI (lw R) := h.2.2.1
theorem K0.odds {σ : St} {R : RF} (h : K0 σ R) : gI σ 48 0 2 = nI (od R) := h.2.2.2.1
theorem K0.N {σ : St} {R : RF} (h : K0 σ R) : gI σ 48 0 3 = nI (nN R) := h.2.2.2.2.1
theorem K0.prP {σ : St} {R : RF} (h : K0 σ R) : PR σ 0 (nP R) (px R) (py R) := h.2.2.2.2.2.1
theorem K0.prM {σ : St} {R : RF} (h : K0 σ R) : PR σ 1 (nM R) (mx R) (my R) := h.2.2.2.2.2.2.1
theorem K0.prF {σ : St} {R : RF} (h : K0 σ R) : PR σ 2 (nF R) (fx R) (fy R) := h.2.2.2.2.2.2.2.1
theorem K0.prW {σ : St} {R : RF} (h : K0 σ R) : PR σ 3 (nW R) (wa R) (wb R) := h.2.2.2.2.2.2.2.2.1
theorem K0.prL {σ : St} {R : RF} (h : K0 σ R) : PR σ 4 (nL R) (lp R) (lh R) := h.2.2.2.2.2.2.2.2.2.1
theorem K0.mw {σ : St} {R : RF} (h : K0 σ R) {m : Nat} (hm : m < nM R) : gI σ 3705 0 m = nI (mw R m) := h.2.2.2.2.2.2.2.2.2.2.1 m hm
theorem K0.A {σ : St} {R : RF} (h : K0 σ R) : gI σ 0 0 3 = nI (nA R) := h.2.2.2.2.2.2.2.2.2.2.2.1
theorem K0.ac {σ : St} {R : RF} (h : K0 σ R) {i : Nat} (hi : i < nA R) : gI σ 15489 0 i = nI (aa R i) ∧ (ak R i = 1 → gI σ 15505 0 i = -1) ∧ (ak R i ≠ 1 → gI σ 15497 0 i = nI (ab R i) ∧ gI σ 15505 0 i = nI (ay R i)) := h.2.2.2.2.2.2.2.2.2.2.2.2 i hi
/-- a roof of the class is where only what S names has changed -/
theorem HC.fr {S : Nat → Nat → Nat → Bool} {σ σ' : St} {k : Nat} {R : RF} (h : HC σ k R) (hf : Fr S σ σ') (hs : ∀ j, S 48 k j = false ∧ (∀ q, q < 5 → S 32 (5 * k + q) j = false ∧ S 105 (5 * k + q) j = false ∧ S 113 (5 * k + q) j = false) ∧ S 3705 k j = false ∧ S 0 k j = false ∧ S 15489 k j = false ∧ S 15497 k j = false ∧ S 15505 k j = false) : HC σ' k R := by
  obtain ⟨h1, h2, h3, h4, h5, h6, h7, h8, h9, h10, h11, h12⟩ := h
  have pr : ∀ {q n : Nat} {f g : Nat → Nat}, q < 5 → PR σ (5 * k + q) n f g → PR σ' (5 * k + q) n f g := fun hq hp => ⟨(hf.i ((hs _).2.1 _ hq).1).trans hp.1, fun i hi => ⟨(hf.i ((hs _).2.1 _ hq).2.1).trans (hp.2 i hi).1, (hf.i ((hs _).2.1 _ hq).2.2).trans (hp.2 i hi).2⟩⟩
  refine ⟨(hf.i (hs _).1).trans h1, (hf.i (hs _).1).trans h2, (hf.i (hs _).1).trans h3, (hf.i (hs _).1).trans h4, pr (q := 0) (by omega) h5, pr (by omega) h6, pr (by omega) h7, pr (by omega) h8, pr (by omega) h9, fun m hm => (hf.i (hs _).2.2.1).trans (h10 m hm), (hf.i (hs _).2.2.2.1).trans h11, fun i hi => ?_⟩
  rw [hf.i (hs _).2.2.2.2.1, hf.i (hs _).2.2.2.2.2.1, hf.i (hs _).2.2.2.2.2.2]
  exact h12 i hi
theorem lt_nI (a : Int32) {n : Nat} (hn : n < 2 ^ 31) : (a < nI n) = (a.toInt < n) := by
  rw [Int32.lt_iff_toInt_lt, nI_toInt hn]
theorem le_nI (a : Int32) {n : Nat} (hn : n < 2 ^ 31) : (a ≤ nI n) = (a.toInt ≤ n) := by
  rw [Int32.le_iff_toInt_le, nI_toInt hn]
theorem inB_if {β : Type} (a : Int32) {n : Nat} (hn : n < 2 ^ 31) (x y : β) : (if a < 0 then y else if a < nI n then x else y) = cond (inB a n) x y := by
  unfold inB
  simp only [lt0, lt_nI a hn]
  by_cases h1 : a.toInt < 0
  · rw [if_pos h1, decide_eq_false (by omega)]; rfl
  · rw [if_neg h1]
    by_cases h2 : a.toInt < n
    · rw [if_pos h2, decide_eq_true (by omega)]; rfl
    · rw [if_neg h2, decide_eq_false (by omega)]; rfl
theorem k_has {σ : St} {q n : Nat} {f g : Nat → Nat} (h : PR σ q n f g) (hn : n < 2 ^ 31) (a : Int32) : Cc 44 0 [vR 32 q, vI a] σ = some (some (vI (tv (inB a n))), σ) := by
  rw [c_Pairs_has, h.1, inB_if a hn, retZ_0, retZ_1]
  cases inB a n <;> rfl
theorem k_one {σ : St} {q n : Nat} {f g : Nat → Nat} (h : PR σ q n f g) {k : Nat} (hk : k < n) (hn : n ≤ pln (q % 5)) (hp : pln (q % 5) < 2 ^ 31) : Cc 47 0 [vR 32 q, vI (nI k)] σ = some (some (vI (nI (f k))), σ) := by
  rw [c_Pairs_one, h.1, if_neg (nI_pos (by omega)), if_pos (nI_lt hk (by omega)), ix_nI (by omega) hp, (h.2 k hk).1]
theorem k_other {σ : St} {q n : Nat} {f g : Nat → Nat} (h : PR σ q n f g) {k : Nat} (hk : k < n) (hn : n ≤ pln (q % 5)) (hp : pln (q % 5) < 2 ^ 31) : Cc 48 0 [vR 32 q, vI (nI k)] σ = some (some (vI (nI (g k))), σ) := by
  rw [c_Pairs_other, h.1, if_neg (nI_pos (by omega)), if_pos (nI_lt hk (by omega)), ix_nI (by omega) hp, (h.2 k hk).2]
theorem k_all {σ : St} {q n : Nat} {f g : Nat → Nat} (h : PR σ q n f g) (hn : n < 31) : Cc 51 0 [vR 32 q] σ = some (some (vI (nI (bn (fun _ => true) n))), σ) := by
  rw [c_Pairs_allBits, h.1, all_n hn]
theorem k_px {σ : St} {R : RF} (h : K0 σ R) {p : Nat} (hp : p < nP R) : Cc 47 0 [vR 32 0, vI (nI p)] σ = some (some (vI (nI (px R p))), σ) := k_one h.prP hp h.b.1 (by decide)
theorem k_py {σ : St} {R : RF} (h : K0 σ R) {p : Nat} (hp : p < nP R) : Cc 48 0 [vR 32 0, vI (nI p)] σ = some (some (vI (nI (py R p))), σ) := k_other h.prP hp h.b.1 (by decide)
theorem k_mx {σ : St} {R : RF} (h : K0 σ R) {p : Nat} (hp : p < nM R) : Cc 47 0 [vR 32 1, vI (nI p)] σ = some (some (vI (nI (mx R p))), σ) := k_one h.prM hp h.b.2.1 (by decide)
theorem k_my {σ : St} {R : RF} (h : K0 σ R) {p : Nat} (hp : p < nM R) : Cc 48 0 [vR 32 1, vI (nI p)] σ = some (some (vI (nI (my R p))), σ) := k_other h.prM hp h.b.2.1 (by decide)
theorem k_fx {σ : St} {R : RF} (h : K0 σ R) {p : Nat} (hp : p < nF R) : Cc 47 0 [vR 32 2, vI (nI p)] σ = some (some (vI (nI (fx R p))), σ) := k_one h.prF hp h.b.2.2.1 (by decide)
theorem k_fy {σ : St} {R : RF} (h : K0 σ R) {p : Nat} (hp : p < nF R) : Cc 48 0 [vR 32 2, vI (nI p)] σ = some (some (vI (nI (fy R p))), σ) := k_other h.prF hp h.b.2.2.1 (by decide)
theorem k_wa {σ : St} {R : RF} (h : K0 σ R) {p : Nat} (hp : p < nW R) : Cc 47 0 [vR 32 3, vI (nI p)] σ = some (some (vI (nI (wa R p))), σ) := k_one h.prW hp h.b.2.2.2.1 (by decide)
theorem k_wb {σ : St} {R : RF} (h : K0 σ R) {p : Nat} (hp : p < nW R) : Cc 48 0 [vR 32 3, vI (nI p)] σ = some (some (vI (nI (wb R p))), σ) := k_other h.prW hp h.b.2.2.2.1 (by decide)
theorem k_lp {σ : St} {R : RF} (h : K0 σ R) {p : Nat} (hp : p < nL R) : Cc 47 0 [vR 32 4, vI (nI p)] σ = some (some (vI (nI (lp R p))), σ) := k_one h.prL hp h.b.2.2.2.2.1 (by decide)
theorem k_lh {σ : St} {R : RF} (h : K0 σ R) {p : Nat} (hp : p < nL R) : Cc 48 0 [vR 32 4, vI (nI p)] σ = some (some (vI (nI (lh R p))), σ) := k_other h.prL hp h.b.2.2.2.2.1 (by decide)
/-- the class's way to ask whether a flue is between -/
theorem bt_eq {x y u v : Int} (h1 : ¬ (x = 0 ∧ y = 0)) (h2 : ¬ (u - x = 0 ∧ v - y = 0)) : bt x y u v = (decide ((-x) * (v - y) = (-y) * (u - x)) && decide ((-x) * (u - x) + (-y) * (v - y) < 0)) := by
  unfold bt
  have e1 : ((-x) * (v - y) = (-y) * (u - x)) ↔ (x * v = y * u) := by
    have a1 : (-x) * (v - y) = x * y - x * v := by rw [Int.mul_sub, Int.neg_mul, Int.neg_mul]; omega
    have a2 : (-y) * (u - x) = x * y - y * u := by rw [Int.mul_sub, Int.neg_mul, Int.neg_mul, Int.mul_comm y x]; omega
    rw [a1, a2]
    omega
  rw [decide_eq_decide.mpr e1]
  by_cases hc : x * v = y * u
  · rw [decide_eq_true hc, Bool.true_and, Bool.true_and, ← Bool.decide_and]
    apply decide_eq_decide.mpr
    -- a = (x, y), b = (u - x, v - y), collinear
    have hp : x * (v - y) = y * (u - x) := by
      rw [Int.mul_sub, Int.mul_sub, Int.mul_comm x y]
      omega
    generalize hu : u - x = p at *
    generalize hv : v - y = q at *
    have hu' : u = x + p := by omega
    have hv' : v = y + q := by omega
    subst hu' hv'
    have m1 : (-x) * p + (-y) * q = -(x * p + y * q) := by rw [Int.neg_mul, Int.neg_mul]; omega
    rw [m1]
    have key : x * p * (y * q) = (x * q) * (x * q) := by
      have : x * p * (y * q) = (x * q) * (y * p) := by
        rw [Int.mul_assoc, Int.mul_assoc, Int.mul_left_comm p y q, Int.mul_left_comm q y p, Int.mul_comm p q]
      rw [this, ← hp]
    have sq : 0 ≤ (x * q) * (x * q) := by
      rcases Int.lt_trichotomy (x * q) 0 with hz | hz | hz
      · have := Int.mul_pos_of_neg_of_neg hz hz
        omega
      · rw [hz]; decide
      · have := Int.mul_pos hz hz
        omega
    have bx : (min 0 (x + p) ≤ x ∧ x ≤ max 0 (x + p)) ↔ 0 ≤ x * p := by
      rcases Int.lt_trichotomy x 0 with hx | hx | hx
      · rcases Int.lt_trichotomy p 0 with hpp | hpp | hpp
        · have := Int.mul_pos_of_neg_of_neg hx hpp
          omega
        · subst hpp; omega
        · have := Int.mul_neg_of_neg_of_pos hx hpp
          omega
      · subst hx; rw [Int.zero_mul]; omega
      · rcases Int.lt_trichotomy p 0 with hpp | hpp | hpp
        · have := Int.mul_neg_of_pos_of_neg hx hpp
          omega
        · subst hpp; omega
        · have := Int.mul_pos hx hpp
          omega
    have by' : (min 0 (y + q) ≤ y ∧ y ≤ max 0 (y + q)) ↔ 0 ≤ y * q := by
      rcases Int.lt_trichotomy y 0 with hx | hx | hx
      · rcases Int.lt_trichotomy q 0 with hpp | hpp | hpp
        · have := Int.mul_pos_of_neg_of_neg hx hpp
          omega
        · subst hpp; omega
        · have := Int.mul_neg_of_neg_of_pos hx hpp
          omega
      · subst hx; rw [Int.zero_mul]; omega
      · rcases Int.lt_trichotomy q 0 with hpp | hpp | hpp
        · have := Int.mul_neg_of_pos_of_neg hx hpp
          omega
        · subst hpp; omega
        · have := Int.mul_pos hx hpp
          omega
    rw [bx, by']
    constructor
    · rintro ⟨p1, p2⟩
      rcases Int.lt_or_le 0 (x * p + y * q) with h | h
      · omega
      · exfalso
        have z1 : x * p = 0 := by omega
        have z2 : y * q = 0 := by omega
        rcases Int.mul_eq_zero.mp z1 with hx | hx
        · rw [hx, Int.zero_mul] at hp
          have : y ≠ 0 := fun z => h1 ⟨hx, z⟩
          rcases Int.mul_eq_zero.mp z2 with hy | hy
          · exact this hy
          · rcases Int.mul_eq_zero.mp hp.symm with hy2 | hy2
            · exact this hy2
            · exact h2 ⟨hy2, hy⟩
        · rcases Int.mul_eq_zero.mp z2 with hy | hy
          · rw [hx, Int.mul_zero] at hp
            rcases Int.mul_eq_zero.mp hp with hx2 | hx2
            · exact h1 ⟨hx2, hy⟩
            · exact h2 ⟨hx, hx2⟩
          · exact h2 ⟨hx, hy⟩
    · intro hlt
      have hs : 0 < x * p + y * q := by omega
      constructor
      · rcases Int.lt_or_le (x * p) 0 with h | h
        · exfalso
          have : 0 < y * q := by omega
          have := Int.mul_neg_of_neg_of_pos h this
          omega
        · exact h
      · rcases Int.lt_or_le (y * q) 0 with h | h
        · exfalso
          have : 0 < x * p := by omega
          have := Int.mul_neg_of_pos_of_neg this h
          omega
        · exact h
  · rw [decide_eq_false hc]
    rfl
