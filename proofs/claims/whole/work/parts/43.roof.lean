/-! THE ROOF, as both programs hold it; what may change (frames) -/
abbrev RF : Type := Nat → Nat → Nat
abbrev yr (R : RF) : Nat := R 0 0
abbrev lw (R : RF) : Nat := R 0 1
abbrev od (R : RF) : Nat := R 0 2
abbrev nP (R : RF) : Nat := R 0 3
abbrev nM (R : RF) : Nat := R 0 4
abbrev nF (R : RF) : Nat := R 0 5
abbrev nW (R : RF) : Nat := R 0 6
abbrev nL (R : RF) : Nat := R 0 7
abbrev nA (R : RF) : Nat := R 0 8
abbrev nN (R : RF) : Nat := R 0 9
abbrev px (R : RF) : Nat → Nat := R 1
abbrev py (R : RF) : Nat → Nat := R 2
abbrev mx (R : RF) : Nat → Nat := R 3
abbrev my (R : RF) : Nat → Nat := R 4
abbrev mw (R : RF) : Nat → Nat := R 5
abbrev fx (R : RF) : Nat → Nat := R 6
abbrev fy (R : RF) : Nat → Nat := R 7
abbrev wa (R : RF) : Nat → Nat := R 8
abbrev wb (R : RF) : Nat → Nat := R 9
abbrev lp (R : RF) : Nat → Nat := R 10
abbrev lh (R : RF) : Nat → Nat := R 11
abbrev ak (R : RF) : Nat → Nat := R 12
abbrev aa (R : RF) : Nat → Nat := R 13
abbrev ab (R : RF) : Nat → Nat := R 14
abbrev ay (R : RF) : Nat → Nat := R 15
/-- how many there may be -/
def WB (R : RF) : Prop := nP R ≤ 6 ∧ nM R ≤ 7 ∧ nF R ≤ 6 ∧ nW R ≤ 10 ∧ nL R ≤ 6 ∧ nA R ≤ 30 ∧ yr R ≤ 12 ∧ lw R ≤ 3 ∧ od R ≤ 10 ∧ nN R ≤ 700
/-- what is told is as it must be -/
def WT (R : RF) : Prop :=
  (nN R = 0 → nP R = 0 ∧ nM R = 0 ∧ nF R = 0 ∧ nW R = 0 ∧ nL R = 0 ∧ nA R = 0 ∧ yr R = 0) ∧
  (∀ p, p < nP R → px R p ≤ 30 ∧ py R p ≤ 30) ∧
  (∀ m, m < nM R → mx R m ≤ 30 ∧ my R m ≤ 30 ∧ mw R m ≤ 99) ∧
  (∀ f, f < nF R → fx R f ≤ 30 ∧ fy R f ≤ 30 ∧ (∀ p, p < nP R → ¬ (fx R f = px R p ∧ fy R f = py R p)) ∧ (∀ m, m < nM R → ¬ (fx R f = mx R m ∧ fy R f = my R m))) ∧
  (∀ w, w < nW R → wa R w < nP R ∧ wb R w < nP R ∧ wa R w ≠ wb R w) ∧
  (∀ l, l < nL R → lp R l < nP R ∧ lh R l < nM R) ∧
  (∀ l k, l < nL R → k < nL R → lp R l = lp R k → l = k) ∧
  (∀ i, i < nA R → (ak R i = 1 → aa R i < nF R) ∧ (ak R i ≠ 1 → aa R i < nL R ∧ ab R i < nL R ∧ aa R i ≠ ab R i ∧ ay R i < yr R))
def WF (R : RF) : Prop := WB R ∧ WT R
/-- the reference's roof k is R -/
def HM (σ : St) (k : Nat) (R : RF) : Prop :=
  (∀ j, j < 9 → gI σ 23385 0 (j + 9 * k) = nI (R 0 j)) ∧ gI σ 2897 0 k = nI (nN R) ∧
  (∀ p, p < nP R → gI σ 31073 0 (2 * p + 12 * k) = nI (px R p) ∧ gI σ 31073 0 (2 * p + 1 + 12 * k) = nI (py R p)) ∧
  (∀ m, m < nM R → gI σ 36201 0 (2 * m + 14 * k) = nI (mx R m) ∧ gI σ 36201 0 (2 * m + 1 + 14 * k) = nI (my R m) ∧ gI σ 18289 0 (m + 7 * k) = nI (mw R m)) ∧
  (∀ f, f < nF R → gI σ 31097 0 (2 * f + 12 * k) = nI (fx R f) ∧ gI σ 31097 0 (2 * f + 1 + 12 * k) = nI (fy R f)) ∧
  (∀ w, w < nW R → gI σ 51585 0 (2 * w + 20 * k) = nI (wa R w) ∧ gI σ 51585 0 (2 * w + 1 + 20 * k) = nI (wb R w)) ∧
  (∀ l, l < nL R → gI σ 31113 0 (2 * l + 12 * k) = nI (lp R l) ∧ gI σ 31113 0 (2 * l + 1 + 12 * k) = nI (lh R l)) ∧
  (∀ i, i < nA R → (ak R i = 1 → gI σ 307601 0 (4 * i + 120 * k) = nI (aa R i) ∧ gI σ 307601 0 (4 * i + 3 + 120 * k) = -1) ∧
    (ak R i ≠ 1 → gI σ 307601 0 (4 * i + 120 * k) = -1 ∧ gI σ 307601 0 (4 * i + 1 + 120 * k) = nI (aa R i) ∧ gI σ 307601 0 (4 * i + 2 + 120 * k) = nI (ab R i) ∧ gI σ 307601 0 (4 * i + 3 + 120 * k) = nI (ay R i)))
/-- the class's pairs q, of so many -/
def PR (σ : St) (q n : Nat) (f g : Nat → Nat) : Prop := gI σ 32 q 2 = nI n ∧ ∀ i, i < n → gI σ 105 q i = nI (f i) ∧ gI σ 113 q i = nI (g i)
/-- the class's roof k is R -/
def HC (σ : St) (k : Nat) (R : RF) : Prop :=
  gI σ 48 k 0 = nI (yr R) ∧ gI σ 48 k 1 = nI (lw R) ∧ gI σ 48 k 2 = nI (od R) ∧ gI σ 48 k 3 = nI (nN R) ∧
  PR σ (5 * k) (nP R) (px R) (py R) ∧ PR σ (5 * k + 1) (nM R) (mx R) (my R) ∧ PR σ (5 * k + 2) (nF R) (fx R) (fy R) ∧
  PR σ (5 * k + 3) (nW R) (wa R) (wb R) ∧ PR σ (5 * k + 4) (nL R) (lp R) (lh R) ∧
  (∀ m, m < nM R → gI σ 3705 k m = nI (mw R m)) ∧ gI σ 0 k 3 = nI (nA R) ∧
  (∀ i, i < nA R → gI σ 15489 k i = nI (aa R i) ∧ (ak R i = 1 → gI σ 15505 k i = -1) ∧ (ak R i ≠ 1 → gI σ 15497 k i = nI (ab R i) ∧ gI σ 15505 k i = nI (ay R i)))
/-! frames -/
/-- an array, all of it, is g -/
def pI (σ : St) (t i : Nat) (g : Nat → Int32) : St := (fun t' i' j' => if t' = t ∧ i' = i then g j' else σ.1 t' i' j', σ.2)
theorem gI_pI (σ : St) (t i : Nat) (g : Nat → Int32) (t' i' j' : Nat) : gI (pI σ t i g) t' i' j' = if t' = t ∧ i' = i then g j' else gI σ t' i' j' := rfl
theorem gL_pI (σ : St) (t i : Nat) (g : Nat → Int32) (t' i' j' : Nat) : gL (pI σ t i g) t' i' j' = gL σ t' i' j' := rfl
theorem gI_pIs (σ : St) (t i : Nat) (g : Nat → Int32) (j : Nat) : gI (pI σ t i g) t i j = g j := by rw [gI_pI, if_pos ⟨rfl, rfl⟩]
theorem gI_pIn {σ : St} {t i : Nat} {g : Nat → Int32} {t' i' j' : Nat} (h : t' ≠ t) : gI (pI σ t i g) t' i' j' = gI σ t' i' j' := by rw [gI_pI, if_neg (fun z => h z.1)]
theorem gI_sIs (σ : St) (t i j : Nat) (v : Int32) : gI (sI σ t i j v) t i j = v := by rw [gI_sI, if_pos ⟨rfl, rfl, rfl⟩]
theorem gI_sIn {σ : St} {t i j : Nat} {v : Int32} {t' i' j' : Nat} (h : t' ≠ t) : gI (sI σ t i j v) t' i' j' = gI σ t' i' j' := by rw [gI_sI, if_neg (fun z => h z.1)]
theorem gI_sIj {σ : St} {t i j : Nat} {v : Int32} {i' j' : Nat} (h : j' ≠ j) : gI (sI σ t i j v) t i' j' = gI σ t i' j' := by rw [gI_sI, if_neg (fun z => h z.2.2)]
theorem st_ext {σ τ : St} (h1 : ∀ t i j, gI σ t i j = gI τ t i j) (h2 : ∀ t i j, gL σ t i j = gL τ t i j) : σ = τ := by
  obtain ⟨a, b⟩ := σ
  obtain ⟨c, d⟩ := τ
  have e1 : a = c := funext (fun t => funext (fun i => funext (fun j => h1 t i j)))
  have e2 : b = d := funext (fun t => funext (fun i => funext (fun j => h2 t i j)))
  rw [e1, e2]
theorem sI_pI (σ : St) (t i j : Nat) (v : Int32) (g : Nat → Int32) : sI (pI σ t i g) t i j v = pI σ t i (upd g j v) := by
  refine st_ext (fun t' i' j' => ?_) (fun _ _ _ => rfl)
  rw [gI_sI, gI_pI, gI_pI]
  unfold upd
  by_cases h : t' = t ∧ i' = i
  · rw [if_pos h, if_pos h]
    by_cases h2 : j' = j
    · rw [if_pos ⟨h.1, h.2, h2⟩, if_pos h2]
    · rw [if_neg (fun z => h2 z.2.2), if_neg h2]
  · rw [if_neg h, if_neg h, if_neg (fun z => h ⟨z.1, z.2.1⟩)]
theorem sI_as (σ : St) (t i j : Nat) (v : Int32) : sI σ t i j v = pI σ t i (upd (gI σ t i) j v) := by
  refine st_ext (fun t' i' j' => ?_) (fun _ _ _ => rfl)
  rw [gI_sI, gI_pI]
  unfold upd
  by_cases h : t' = t ∧ i' = i
  · rw [if_pos h]
    by_cases h2 : j' = j
    · rw [if_pos ⟨h.1, h.2, h2⟩, if_pos h2]
    · rw [if_neg (fun z => h2 z.2.2), if_neg h2, h.1, h.2]
  · rw [if_neg h, if_neg (fun z => h ⟨z.1, z.2.1⟩)]
theorem sI_sI (σ : St) (t i j : Nat) (v w : Int32) : sI (sI σ t i j v) t i j w = sI σ t i j w := by
  refine st_ext (fun t' i' j' => ?_) (fun _ _ _ => rfl)
  rw [gI_sI, gI_sI, gI_sI]
  by_cases h : t' = t ∧ i' = i ∧ j' = j
  · rw [if_pos h, if_pos h]
  · rw [if_neg h, if_neg h, if_neg h]
theorem pI_pI (σ : St) (t i : Nat) (g g' : Nat → Int32) : pI (pI σ t i g) t i g' = pI σ t i g' := by
  refine st_ext (fun t' i' j' => ?_) (fun _ _ _ => rfl)
  rw [gI_pI, gI_pI, gI_pI]
  by_cases h : t' = t ∧ i' = i
  · rw [if_pos h, if_pos h]
  · rw [if_neg h, if_neg h, if_neg h]
theorem pI_id (σ : St) (t i : Nat) : pI σ t i (gI σ t i) = σ := by
  refine st_ext (fun t' i' j' => ?_) (fun _ _ _ => rfl)
  rw [gI_pI]
  by_cases h : t' = t ∧ i' = i
  · rw [if_pos h, h.1, h.2]
  · rw [if_neg h]
theorem pI_cm {σ : St} {t i t2 i2 : Nat} {g g2 : Nat → Int32} (h : ¬ (t = t2 ∧ i = i2)) : pI (pI σ t i g) t2 i2 g2 = pI (pI σ t2 i2 g2) t i g := by
  refine st_ext (fun t' i' j' => ?_) (fun _ _ _ => rfl)
  rw [gI_pI, gI_pI, gI_pI, gI_pI]
  by_cases h1 : t' = t ∧ i' = i
  · rw [if_neg (fun z => h ⟨h1.1.symm.trans z.1, h1.2.symm.trans z.2⟩), if_pos h1, if_pos h1]
  · by_cases h2 : t' = t2 ∧ i' = i2
    · rw [if_pos h2, if_neg h1, if_pos h2]
    · rw [if_neg h2, if_neg h1, if_neg h1, if_neg h2]
/-- outside S nothing has changed -/
def Fr (S : Nat → Nat → Nat → Bool) (σ σ' : St) : Prop := ∀ t i j, S t i j = false → gI σ' t i j = gI σ t i j ∧ gL σ' t i j = gL σ t i j
theorem Fr.rf {S : Nat → Nat → Nat → Bool} {σ : St} : Fr S σ σ := fun _ _ _ _ => ⟨rfl, rfl⟩
theorem Fr.tr {S : Nat → Nat → Nat → Bool} {σ σ1 σ2 : St} (h1 : Fr S σ σ1) (h2 : Fr S σ1 σ2) : Fr S σ σ2 := fun t i j h => ⟨((h2 t i j h).1).trans (h1 t i j h).1, ((h2 t i j h).2).trans (h1 t i j h).2⟩
theorem Fr.sI {S : Nat → Nat → Nat → Bool} {σ σ' : St} {t i j : Nat} {v : Int32} (h : Fr S σ σ') (hs : S t i j = true) : Fr S σ (sI σ' t i j v) := h.tr (fun t' i' j' hq => ⟨by
  rw [gI_sI, if_neg]
  rintro ⟨rfl, rfl, rfl⟩
  exact Bool.noConfusion (hs.symm.trans hq), rfl⟩)
theorem Fr.sL {S : Nat → Nat → Nat → Bool} {σ σ' : St} {t i j : Nat} {v : Int64} (h : Fr S σ σ') (hs : S t i j = true) : Fr S σ (sL σ' t i j v) := h.tr (fun t' i' j' hq => ⟨rfl, by
  rw [gL_sL, if_neg]
  rintro ⟨rfl, rfl, rfl⟩
  rw [hs] at hq
  cases hq⟩)
theorem Fr.pI {S : Nat → Nat → Nat → Bool} {σ σ' : St} {t i : Nat} {g : Nat → Int32} (h : Fr S σ σ') (hs : ∀ j, S t i j = true) : Fr S σ (pI σ' t i g) := h.tr (fun t' i' j' hq => ⟨by
  rw [gI_pI, if_neg]
  rintro ⟨rfl, rfl⟩
  exact Bool.noConfusion ((hs j').symm.trans hq), rfl⟩)
theorem Fr.up {S S' : Nat → Nat → Nat → Bool} {σ σ' : St} (h : Fr S σ σ') (hs : ∀ t i j, S' t i j = false → S t i j = false) : Fr S' σ σ' := fun t i j hq => h t i j (hs t i j hq)
theorem Fr.i {S : Nat → Nat → Nat → Bool} {σ σ' : St} (h : Fr S σ σ') {t i j : Nat} (hs : S t i j = false) : gI σ' t i j = gI σ t i j := (h t i j hs).1
theorem Fr.l {S : Nat → Nat → Nat → Bool} {σ σ' : St} (h : Fr S σ σ') {t i j : Nat} (hs : S t i j = false) : gL σ' t i j = gL σ t i j := (h t i j hs).2
/-- what the reference writes anew at each call -/
def scM (t _i j : Nat) : Bool := Nat.beq t 31042 || Nat.beq t 3489 || Nat.beq t 3497 || Nat.beq t 3505 || Nat.beq t 40377 || Nat.beq t 3521 || Nat.beq t 3529 || Nat.beq t 23888337 || Nat.beq t 369113 || Nat.beq t 40417 || (Nat.beq t 96 && !(Nat.beq j 6 || Nat.beq j 14 || Nat.beq j 15))
theorem HM.fr {S : Nat → Nat → Nat → Bool} {σ σ' : St} {k : Nat} {R : RF} (h : HM σ k R) (hf : Fr S σ σ') (hs : ∀ j, S 23385 0 j = false ∧ S 2897 0 j = false ∧ S 31073 0 j = false ∧ S 36201 0 j = false ∧ S 18289 0 j = false ∧ S 31097 0 j = false ∧ S 51585 0 j = false ∧ S 31113 0 j = false ∧ S 307601 0 j = false) : HM σ' k R := by
  obtain ⟨h1, h2, h3, h4, h5, h6, h7, h8⟩ := h
  refine ⟨fun j hj => ?_, ?_, fun p hp => ?_, fun m hm => ?_, fun f hf' => ?_, fun w hw => ?_, fun l hl => ?_, fun i hi => ?_⟩
  · rw [hf.i (hs _).1]; exact h1 j hj
  · rw [hf.i (hs _).2.1]; exact h2
  · rw [hf.i (hs _).2.2.1, hf.i (hs _).2.2.1]; exact h3 p hp
  · rw [hf.i (hs _).2.2.2.1, hf.i (hs _).2.2.2.1, hf.i (hs _).2.2.2.2.1]; exact h4 m hm
  · rw [hf.i (hs _).2.2.2.2.2.1, hf.i (hs _).2.2.2.2.2.1]; exact h5 f hf'
  · rw [hf.i (hs _).2.2.2.2.2.2.1, hf.i (hs _).2.2.2.2.2.2.1]; exact h6 w hw
  · rw [hf.i (hs _).2.2.2.2.2.2.2.1, hf.i (hs _).2.2.2.2.2.2.2.1]; exact h7 l hl
  · rw [hf.i (hs _).2.2.2.2.2.2.2.2, hf.i (hs _).2.2.2.2.2.2.2.2, hf.i (hs _).2.2.2.2.2.2.2.2, hf.i (hs _).2.2.2.2.2.2.2.2]; exact h8 i hi
/-- the reference's roof of now -/
def H0 (σ : St) (R : RF) : Prop := WF R ∧ HM σ 0 R
theorem H0.fr {S : Nat → Nat → Nat → Bool} {σ σ' : St} {R : RF} (h : H0 σ R) (hf : Fr S σ σ') (hs : ∀ t i j, S t i j = true → scM t i j = true) : H0 σ' R := ⟨h.1, h.2.fr hf (fun j => by
  have hh : ∀ t, scM t 0 j = false → S t 0 j = false := fun t hq => by
    cases hz : S t 0 j
    · rfl
    · rw [hs _ _ _ hz] at hq
      cases hq
  exact ⟨hh _ rfl, hh _ rfl, hh _ rfl, hh _ rfl, hh _ rfl, hh _ rfl, hh _ rfl, hh _ rfl, hh _ rfl⟩)⟩
theorem H0.b {σ : St} {R : RF} (h : H0 σ R) : nP R ≤ 6 ∧ nM R ≤ 7 ∧ nF R ≤ 6 ∧ nW R ≤ 10 ∧ nL R ≤ 6 ∧ nA R ≤ 30 ∧ yr R ≤ 12 ∧ lw R ≤ 3 ∧ od R ≤ 10 ∧ nN R ≤ 700 := h.1.1
theorem H0.years {σ : St} {R : RF} (h : H0 σ R) : gI σ 23385 0 0 = nI (yr R) := h.2.1 0 (by omega)
theorem H0.law {σ : St} {R : RF} (h : H0 σ R) : gI σ 23385 0 1 = nI (lw R) := h.2.1 1 (by omega)
theorem H0.odds {σ : St} {R : RF} (h : H0 σ R) : gI σ 23385 0 2 = nI (od R) := h.2.1 2 (by omega)
theorem H0.P {σ : St} {R : RF} (h : H0 σ R) : gI σ 23385 0 3 = nI (nP R) := h.2.1 3 (by omega)
theorem H0.M {σ : St} {R : RF} (h : H0 σ R) : gI σ 23385 0 4 = nI (nM R) := h.2.1 4 (by omega)
theorem H0.F {σ : St} {R : RF} (h : H0 σ R) : gI σ 23385 0 5 = nI (nF R) := h.2.1 5 (by omega)
theorem H0.W {σ : St} {R : RF} (h : H0 σ R) : gI σ 23385 0 6 = nI (nW R) := h.2.1 6 (by omega)
theorem H0.L {σ : St} {R : RF} (h : H0 σ R) : gI σ 23385 0 7 = nI (nL R) := h.2.1 7 (by omega)
theorem H0.A {σ : St} {R : RF} (h : H0 σ R) : gI σ 23385 0 8 = nI (nA R) := h.2.1 8 (by omega)
theorem H0.N {σ : St} {R : RF} (h : H0 σ R) : gI σ 2897 0 0 = nI (nN R) := h.2.2.1
theorem H0.px {σ : St} {R : RF} (h : H0 σ R) {p : Nat} (hp : p < nP R) : gI σ 31073 0 (2 * p) = nI (px R p) := (h.2.2.2.1 p hp).1
theorem H0.py {σ : St} {R : RF} (h : H0 σ R) {p : Nat} (hp : p < nP R) : gI σ 31073 0 (2 * p + 1) = nI (py R p) := (h.2.2.2.1 p hp).2
theorem H0.mx {σ : St} {R : RF} (h : H0 σ R) {m : Nat} (hm : m < nM R) : gI σ 36201 0 (2 * m) = nI (mx R m) := (h.2.2.2.2.1 m hm).1
theorem H0.my {σ : St} {R : RF} (h : H0 σ R) {m : Nat} (hm : m < nM R) : gI σ 36201 0 (2 * m + 1) = nI (my R m) := (h.2.2.2.2.1 m hm).2.1
theorem H0.mw {σ : St} {R : RF} (h : H0 σ R) {m : Nat} (hm : m < nM R) : gI σ 18289 0 m = nI (mw R m) := (h.2.2.2.2.1 m hm).2.2
theorem H0.fx {σ : St} {R : RF} (h : H0 σ R) {f : Nat} (hf : f < nF R) : gI σ 31097 0 (2 * f) = nI (fx R f) := (h.2.2.2.2.2.1 f hf).1
theorem H0.fy {σ : St} {R : RF} (h : H0 σ R) {f : Nat} (hf : f < nF R) : gI σ 31097 0 (2 * f + 1) = nI (fy R f) := (h.2.2.2.2.2.1 f hf).2
theorem H0.wa {σ : St} {R : RF} (h : H0 σ R) {w : Nat} (hw : w < nW R) : gI σ 51585 0 (2 * w) = nI (wa R w) := (h.2.2.2.2.2.2.1 w hw).1
theorem H0.wb {σ : St} {R : RF} (h : H0 σ R) {w : Nat} (hw : w < nW R) : gI σ 51585 0 (2 * w + 1) = nI (wb R w) := (h.2.2.2.2.2.2.1 w hw).2
theorem H0.lp {σ : St} {R : RF} (h : H0 σ R) {l : Nat} (hl : l < nL R) : gI σ 31113 0 (2 * l) = nI (lp R l) := (h.2.2.2.2.2.2.2.1 l hl).1
theorem H0.lh {σ : St} {R : RF} (h : H0 σ R) {l : Nat} (hl : l < nL R) : gI σ 31113 0 (2 * l + 1) = nI (lh R l) := (h.2.2.2.2.2.2.2.1 l hl).2
theorem H0.a1 {σ : St} {R : RF} (h : H0 σ R) {i : Nat} (hi : i < nA R) (hk : ak R i = 1) : gI σ 307601 0 (4 * i) = nI (aa R i) ∧ gI σ 307601 0 (4 * i + 3) = -1 := (h.2.2.2.2.2.2.2.2 i hi).1 hk
theorem H0.a0 {σ : St} {R : RF} (h : H0 σ R) {i : Nat} (hi : i < nA R) (hk : ak R i ≠ 1) : gI σ 307601 0 (4 * i) = -1 ∧ gI σ 307601 0 (4 * i + 1) = nI (aa R i) ∧ gI σ 307601 0 (4 * i + 2) = nI (ab R i) ∧ gI σ 307601 0 (4 * i + 3) = nI (ay R i) := (h.2.2.2.2.2.2.2.2 i hi).2 hk
