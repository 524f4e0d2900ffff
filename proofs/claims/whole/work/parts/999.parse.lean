/-! THE TEXT: tokens, pure -/
def bk (b : Int32) : Nat := if b = 32 then 5 else if b = 10 then 5 else if (97 : Int32) ≤ b ∧ b ≤ (122 : Int32) then 1 else if (48 : Int32) ≤ b ∧ b ≤ (57 : Int32) then 2 else if b = 59 then 3 else 4
/-- the kind of a byte: 5 a blank, 1 a letter, 2 a digit, 3 the sign, 4 another; 0 the end -/
def kd (t : TP) (i : Nat) : Nat := if i < t.2.1 then bk (t.1 i) else 0
def stt (t : TP) (p : Nat) : Nat := fr (fun i => !Nat.beq (kd t i) 5) (t.2.1 - p) p
def knt (t : TP) (p : Nat) : Nat := kd t (stt t p)
def ent (t : TP) (p : Nat) : Nat := cond (Nat.beq (knt t p) 1 || Nat.beq (knt t p) 2) (fr (fun i => !Nat.beq (kd t i) (knt t p)) (t.2.1 - (stt t p + 1)) (stt t p + 1)) (if stt t p + 1 ≤ t.2.1 then stt t p + 1 else t.2.1)
theorem bk_le (b : Int32) : 1 ≤ bk b ∧ bk b ≤ 5 := by
  unfold bk
  repeat' split
  all_goals decide
theorem stt_le {t : TP} {p : Nat} (h : p ≤ t.2.1) : p ≤ stt t p ∧ stt t p ≤ t.2.1 := by
  have := fr_ge (fun i => !Nat.beq (kd t i) 5) (t.2.1 - p) p
  unfold stt
  omega
theorem stt_blank {t : TP} {p j : Nat} (h1 : p ≤ j) (h2 : j < stt t p) : kd t j = 5 := by
  have := fr_not (fun i => !Nat.beq (kd t i) 5) (t.2.1 - p) p j h1 h2
  have : (!Nat.beq (kd t j) 5) = false := this
  rw [Bool.not_eq_false'] at this
  exact Nat.eq_of_beq_eq_true this
theorem knt_5 {t : TP} {p : Nat} (h : p ≤ t.2.1) : knt t p ≠ 5 := by
  have h1 := stt_le h
  unfold knt
  by_cases hq : stt t p < t.2.1
  · have := fr_at (fun i => !Nat.beq (kd t i) 5) (t.2.1 - p) p (by have : fr (fun i => !Nat.beq (kd t i) 5) (t.2.1 - p) p = stt t p := rfl; omega)
    have : (!Nat.beq (kd t (stt t p)) 5) = true := this
    rw [Bool.not_eq_true'] at this
    exact Nat.ne_of_beq_eq_false this
  · unfold kd
    rw [if_neg hq]
    decide
theorem knt_0 {t : TP} {p : Nat} (h : p ≤ t.2.1) : knt t p = 0 ↔ stt t p = t.2.1 := by
  have h1 := stt_le h
  unfold knt kd
  constructor
  · intro hq
    by_cases h2 : stt t p < t.2.1
    · rw [if_pos h2] at hq
      have := bk_le (t.1 (stt t p))
      omega
    · omega
  · intro hq
    rw [if_neg (by omega)]
theorem ent_le {t : TP} {p : Nat} (h : p ≤ t.2.1) : ent t p ≤ t.2.1 ∧ (knt t p ≠ 0 → stt t p < ent t p) ∧ p ≤ ent t p := by
  have h1 := stt_le h
  have h0 := knt_0 h
  unfold ent
  cases hq : Nat.beq (knt t p) 1 || Nat.beq (knt t p) 2
  · show (if stt t p + 1 ≤ t.2.1 then stt t p + 1 else t.2.1) ≤ t.2.1 ∧ (knt t p ≠ 0 → stt t p < (if stt t p + 1 ≤ t.2.1 then stt t p + 1 else t.2.1)) ∧ p ≤ (if stt t p + 1 ≤ t.2.1 then stt t p + 1 else t.2.1)
    by_cases h2 : stt t p + 1 ≤ t.2.1
    · rw [if_pos h2]
      omega
    · rw [if_neg h2]
      refine ⟨Nat.le_refl _, fun z => ?_, h⟩
      exact absurd (h0.mpr (by omega)) z
  · have hn : knt t p ≠ 0 := fun z => by
      rw [z] at hq
      cases hq
    have h2 : stt t p < t.2.1 := by
      have : stt t p ≠ t.2.1 := fun z => hn (h0.mpr z)
      omega
    have := fr_ge (fun i => !Nat.beq (kd t i) (knt t p)) (t.2.1 - (stt t p + 1)) (stt t p + 1)
    show fr (fun i => !Nat.beq (kd t i) (knt t p)) (t.2.1 - (stt t p + 1)) (stt t p + 1) ≤ t.2.1 ∧ (knt t p ≠ 0 → stt t p < fr (fun i => !Nat.beq (kd t i) (knt t p)) (t.2.1 - (stt t p + 1)) (stt t p + 1)) ∧ p ≤ fr (fun i => !Nat.beq (kd t i) (knt t p)) (t.2.1 - (stt t p + 1)) (stt t p + 1)
    refine ⟨by omega, fun _ => by omega, by omega⟩
/-- all of a word are letters, of a number digits -/
theorem ent_all {t : TP} {p : Nat} (hk : knt t p = 1 ∨ knt t p = 2) {j : Nat} (h1 : stt t p ≤ j) (h2 : j < ent t p) : kd t j = knt t p := by
  by_cases hj : j = stt t p
  · rw [hj]; rfl
  · have hq : (Nat.beq (knt t p) 1 || Nat.beq (knt t p) 2) = true := by
      rcases hk with hk | hk <;> (rw [hk]; rfl)
    unfold ent at h2
    rw [hq] at h2
    have := fr_not (fun i => !Nat.beq (kd t i) (knt t p)) (t.2.1 - (stt t p + 1)) (stt t p + 1) j (by omega) h2
    have : (!Nat.beq (kd t j) (knt t p)) = false := this
    rw [Bool.not_eq_false'] at this
    exact Nat.eq_of_beq_eq_true this
/-- behind it there is another kind -/
theorem ent_end {t : TP} {p : Nat} (h : p ≤ t.2.1) (hk : knt t p = 1 ∨ knt t p = 2) : kd t (ent t p) ≠ knt t p := by
  have h0 := knt_0 h
  have hs := stt_le h
  have hl := ent_le h
  have hq : (Nat.beq (knt t p) 1 || Nat.beq (knt t p) 2) = true := by
    rcases hk with hk | hk <;> (rw [hk]; rfl)
  have hn : knt t p ≠ 0 := by omega
  have hsl := hl.2.1 hn
  by_cases hq2 : ent t p < t.2.1
  · have e : ent t p = fr (fun i => !Nat.beq (kd t i) (knt t p)) (t.2.1 - (stt t p + 1)) (stt t p + 1) := by
      unfold ent
      rw [hq]
      rfl
    have := fr_at (fun i => !Nat.beq (kd t i) (knt t p)) (t.2.1 - (stt t p + 1)) (stt t p + 1) (by rw [← e]; omega)
    rw [← e] at this
    have : (!Nat.beq (kd t (ent t p)) (knt t p)) = true := this
    rw [Bool.not_eq_true'] at this
    exact Nat.ne_of_beq_eq_false this
  · unfold kd
    rw [if_neg hq2]
    exact fun z => hn z.symm
/-! letters and digits, values -/
def ltr (t : TP) (i : Nat) : Nat := (t.1 i).toInt.toNat
theorem bk_1 {b : Int32} (h : bk b = 1) : (97 : Int32) ≤ b ∧ b ≤ (122 : Int32) := by
  unfold bk at h
  split at h
  · cases h
  · split at h
    · cases h
    · split at h
      · assumption
      · split at h
        · cases h
        · split at h <;> cases h
theorem bk_2 {b : Int32} (h : bk b = 2) : (48 : Int32) ≤ b ∧ b ≤ (57 : Int32) := by
  unfold bk at h
  split at h
  · cases h
  · split at h
    · cases h
    · split at h
      · cases h
      · split at h
        · assumption
        · split at h <;> cases h
theorem ltr_1 {t : TP} {i : Nat} (h : kd t i = 1) : t.1 i = nI (ltr t i) ∧ 97 ≤ ltr t i ∧ ltr t i ≤ 122 := by
  unfold kd at h
  by_cases hq : i < t.2.1
  · rw [if_pos hq] at h
    obtain ⟨h1, h2⟩ := bk_1 h
    rw [Int32.le_iff_toInt_le] at h1 h2
    have e1 : (97 : Int32).toInt = 97 := rfl
    have e2 : (122 : Int32).toInt = 122 := rfl
    obtain ⟨k, hk, ek⟩ := nn_e (a := t.1 i) (by omega)
    unfold ltr
    rw [ek] at h1 h2 ⊢
    rw [nI_toInt hk] at h1 h2 ⊢
    exact ⟨by rw [Int.toNat_natCast], by omega, by omega⟩
  · rw [if_neg hq] at h
    cases h
theorem ltr_2 {t : TP} {i : Nat} (h : kd t i = 2) : t.1 i = nI (ltr t i) ∧ 48 ≤ ltr t i ∧ ltr t i ≤ 57 := by
  unfold kd at h
  by_cases hq : i < t.2.1
  · rw [if_pos hq] at h
    obtain ⟨h1, h2⟩ := bk_2 h
    rw [Int32.le_iff_toInt_le] at h1 h2
    have e1 : (48 : Int32).toInt = 48 := rfl
    have e2 : (57 : Int32).toInt = 57 := rfl
    obtain ⟨k, hk, ek⟩ := nn_e (a := t.1 i) (by omega)
    unfold ltr
    rw [ek] at h1 h2 ⊢
    rw [nI_toInt hk] at h1 h2 ⊢
    exact ⟨by rw [Int.toNat_natCast], by omega, by omega⟩
  · rw [if_neg hq] at h
    cases h
/-- the value of k digits from s on -/
def dvl (t : TP) (s : Nat) : Nat → Nat
  | 0 => 0
  | k + 1 => 10 * dvl t s k + (ltr t (s + k) - 48)
def vlt (t : TP) (p : Nat) : Nat := dvl t (stt t p) (ent t p - stt t p)
/-- the number of a word of k letters -/
def cwd (f : Nat → Nat) : Nat → Nat
  | 0 => 0
  | k + 1 => 27 * cwd f k + (f k - 96)
theorem cwd_inj {f g : Nat → Nat} : ∀ {k m : Nat}, (∀ i, i < k → 97 ≤ f i ∧ f i ≤ 122) → (∀ i, i < m → 97 ≤ g i ∧ g i ≤ 122) → cwd f k = cwd g m → k = m ∧ ∀ i, i < k → f i = g i
  | 0, 0, _, _, _ => ⟨rfl, fun i hi => by omega⟩
  | 0, m + 1, _, hg, e => by
    have e : 0 = 27 * cwd g m + (g m - 96) := e
    have := hg m (by omega)
    omega
  | k + 1, 0, hf, _, e => by
    have e : 27 * cwd f k + (f k - 96) = 0 := e
    have := hf k (by omega)
    omega
  | k + 1, m + 1, hf, hg, e => by
    have e : 27 * cwd f k + (f k - 96) = 27 * cwd g m + (g m - 96) := e
    have h1 := hf k (by omega)
    have h2 := hg m (by omega)
    obtain ⟨e1, e2⟩ := cwd_inj (k := k) (m := m) (fun i hi => hf i (by omega)) (fun i hi => hg i (by omega)) (by omega)
    subst e1
    refine ⟨rfl, fun i hi => ?_⟩
    by_cases hik : i = k
    · subst hik
      omega
    · exact e2 i (by omega)
theorem cwd_c {f g : Nat → Nat} : ∀ {k : Nat}, (∀ i, i < k → f i = g i) → cwd f k = cwd g k
  | 0, _ => rfl
  | k + 1, h => by
    show 27 * cwd f k + (f k - 96) = 27 * cwd g k + (g k - 96)
    rw [cwd_c (fun i hi => h i (by omega)), h k (by omega)]
theorem cwd_lt {f : Nat → Nat} : ∀ {k : Nat}, (∀ i, i < k → f i ≤ 122) → cwd f k < 27 ^ k
  | 0, _ => by
    show 0 < 1
    decide
  | k + 1, h => by
    have h1 := cwd_lt (f := f) (k := k) (fun i hi => h i (by omega))
    have h2 := h k (by omega)
    show 27 * cwd f k + (f k - 96) < 27 ^ (k + 1)
    rw [Nat.pow_succ]
    omega
/-- the words -/
def wd (k : Nat) : List Nat := (sws.getD k []).map (fun c => c.toInt.toNat)
def isW (t : TP) (p k : Nat) : Bool := Nat.beq (knt t p) 1 && (Nat.beq (ent t p - stt t p) (wd k).length && !ex (fun i => !Nat.beq (ltr t (stt t p + i)) ((wd k).getD i 0)) (ent t p - stt t p))
/-- as the reference asks -/
theorem isW_cw {t : TP} {p k : Nat} (h1 : knt t p = 1) (hw : ∀ i, i < (wd k).length → 97 ≤ (wd k).getD i 0 ∧ (wd k).getD i 0 ≤ 122) : isW t p k = decide (cwd (fun i => ltr t (stt t p + i)) (ent t p - stt t p) = cwd (fun i => (wd k).getD i 0) (wd k).length) := by
  have hl : ∀ i, i < ent t p - stt t p → 97 ≤ ltr t (stt t p + i) ∧ ltr t (stt t p + i) ≤ 122 := fun i hi => by
    have e := ent_all (t := t) (p := p) (Or.inl h1) (j := stt t p + i) (by omega) (by omega)
    rw [h1] at e
    exact (ltr_1 e).2
  unfold isW
  rw [h1, show Nat.beq 1 1 = true from rfl, Bool.true_and]
  by_cases hc : cwd (fun i => ltr t (stt t p + i)) (ent t p - stt t p) = cwd (fun i => (wd k).getD i 0) (wd k).length
  · obtain ⟨e1, e2⟩ := cwd_inj hl hw hc
    rw [decide_eq_true hc, e1, Nat.beq_refl, Bool.true_and, Bool.not_eq_true']
    refine ex_no.mpr (fun i hi => ?_)
    have := e2 i (by omega)
    have : ltr t (stt t p + i) = (wd k).getD i 0 := this
    rw [this, Nat.beq_refl]
    rfl
  · rw [decide_eq_false hc]
    cases hb : Nat.beq (ent t p - stt t p) (wd k).length
    · rfl
    · rw [Bool.true_and, Bool.not_eq_false']
      cases hx : ex (fun i => !Nat.beq (ltr t (stt t p + i)) ((wd k).getD i 0)) (ent t p - stt t p)
      · exfalso
        have e1 := Nat.eq_of_beq_eq_true hb
        refine hc ?_
        rw [← e1]
        refine cwd_c (fun i hi => ?_)
        have := ex_no.mp hx i hi
        rw [Bool.not_eq_false'] at this
        exact Nat.eq_of_beq_eq_true this
      · rfl
theorem wd_ok : ∀ k, k < 12 → ((wd k).length ≤ 6 ∧ (List.range (wd k).length).all (fun i => Nat.ble 97 ((wd k).getD i 0) && Nat.ble ((wd k).getD i 0) 122) = true ∧ slen k = (wd k).length ∧ (List.range (wd k).length).all (fun i => decide (sch k i = nI ((wd k).getD i 0))) = true) := by decide +kernel
theorem wd_l {k : Nat} (hk : k < 12) : ∀ i, i < (wd k).length → 97 ≤ (wd k).getD i 0 ∧ (wd k).getD i 0 ≤ 122 := fun i hi => by
  have := List.all_eq_true.mp (wd_ok k hk).2.1 i (List.mem_range.mpr hi)
  rw [Bool.and_eq_true] at this
  exact ⟨Nat.le_of_ble_eq_true this.1, Nat.le_of_ble_eq_true this.2⟩
theorem wd_s {k : Nat} (hk : k < 12) : ∀ i, i < (wd k).length → sch k i = nI ((wd k).getD i 0) := fun i hi => of_decide_eq_true (List.all_eq_true.mp (wd_ok k hk).2.2.2 i (List.mem_range.mpr hi))
def wcd (k : Nat) : Nat := cwd (fun i => (wd k).getD i 0) (wd k).length
theorem wcd_all : (List.range 12).map wcd = [47, 127418, 4558591, 8798, 180461916, 257105, 298288, 8740067, 365640, 16819, 12532058, 13385674] := by decide +kernel
