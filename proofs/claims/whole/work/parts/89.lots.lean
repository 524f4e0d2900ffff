/-! LOTS: what a man takes -/
def frF (u : Nat) : Nat → Bool := fun p => !Nat.testBit u p
def ltW (R : RF) : Nat → Nat → Bool := fun b p => decide (wth R (see R (fal R) b) < wth R (see R (fal R) p))
def glF (R : RF) (u m : Nat) : Nat → Bool := fun p => !Nat.testBit u p && see R (fal R) p (lh R m)
def tko (R : RF) (u m : Nat) : Int32 := cond (ex (glF R u m) (nP R)) (nI (fr (glF R u m) (nP R) 0)) (oI (am (frF u) (ltW R) (nP R)))
theorem s_takes {σ : St} {R : RF} (h : H0 σ R) (hE : SE σ R (fal R)) {m u : Nat} (hm : m < nL R) (hu : u < 2 ^ 31) : Cc 329 0 [vR 96 0, vI (nI m), vI (nI u)] σ = some (some (vI (tko R u m)), σ) := by
  have hbb := h.b
  rw [c_M_takesOf]
  have hl := lpF0 (V := fun j => Vv 329 0 5 [some (vR 96 0), some (vI (nI m)), some (vI (nI u)), some (vI (oI (am (frF u) (ltW R) j))), some (vI (nI j))] [] σ) (P := glF R u m) (r := fun j => some (some (vI (nI j)), σ)) (nP R) (fun j hj => by
    show Vv _ _ _ _ _ _ = _
    rw [v_M_takesOf_5, cI_P h, if_pos (nI_lt hj (by omega)), s_isBit, bit_n hu (by omega), cI_s, tv_ite, s_isGlad h hE hm hj, cI_s, tv_ite, s_placeW h hE hj, cI_s, nI_1]
    have eg : glF R u m j = (!Nat.testBit u j && see R (fal R) j (lh R m)) := rfl
    have ea := am_s (frF u) (ltW R) j
    have ef : frF u j = !Nat.testBit u j := rfl
    rw [eg]
    cases hb : Nat.testBit u j
    · cases hs : see R (fal R) j (lh R m)
      · rw [hb] at ef
        cases hq : am (frF u) (ltW R) j with
        | none =>
          rw [hq] at ea
          have e1 : am (frF u) (ltW R) (j + 1) = some j := by rw [ea, ef]; rfl
          rw [e1]
          rfl
        | some b =>
          obtain ⟨hb1, hb2⟩ := am_in hq
          rw [hq] at ea
          have e1 : am (frF u) (ltW R) (j + 1) = cond (ltW R b j) (some j) (some b) := by rw [ea, ef]; rfl
          have w1 := wth_le h.1 (see R (fal R) j)
          have w2 := wth_le h.1 (see R (fal R) b)
          rw [e1]
          show (if nI b = -1 then _ else cI (Cc 261 0 [vR 96 0, vI (nI b)] σ) _) = _
          rw [if_neg (nI_nm (by omega)), s_placeW h hE (by omega), cI_s]
          by_cases hlt : wth R (see R (fal R) b) < wth R (see R (fal R) j)
          · rw [if_neg (nI_ge hlt (by omega)), show ltW R b j = true from decide_eq_true hlt]
            rfl
          · rw [if_pos (nI_le (by omega) (by omega)), show ltW R b j = false from decide_eq_false hlt]
            rfl
      · rfl
    · rw [hb] at ef
      have e1 : am (frF u) (ltW R) (j + 1) = am (frF u) (ltW R) j := by
        rw [ea, ef]
        cases am (frF u) (ltW R) j <;> rfl
      rw [e1]
      rfl)
  refine Eq.trans hl ?_
  have he : Vv 329 0 5 [some (vR 96 0), some (vI (nI m)), some (vI (nI u)), some (vI (oI (am (frF u) (ltW R) (nP R)))), some (vI (nI (nP R)))] [] σ = some (some (vI (oI (am (frF u) (ltW R) (nP R)))), σ) := by
    rw [v_M_takesOf_5, cI_P h, if_neg (nI_nlt (Nat.le_refl _) (by omega))]
  show cond _ _ (Vv _ _ _ _ _ _) = _
  rw [he]
  unfold tko
  cases ex (glF R u m) (nP R) <;> rfl
theorem k_firstSees {σ : St} {R : RF} (h : HV σ R) {x m u : Nat} (hm : m < nL R) (hx : x < 2 ^ 31) (hxu : ∀ p, p < nP R → Nat.testBit x p = !Nat.testBit u p) : Cc 106 0 [vR 72 0, vI (nI x), vI (nI (lh R m))] σ = some (some (vI (cond (ex (glF R u m) (nP R)) (nI (fr (glF R u m) (nP R) 0)) (-1))), σ) := by
  have hbb := h.1.b
  have hh : lh R m < nM R := (h.1.1.2.2.2.2.2.2.1 m hm).2
  rw [c_Sight_firstThatSees]
  have hl := lpF0 (V := fun j => Vv 106 0 2 [some (vR 72 0), some (vI (nI x)), some (vI (nI (lh R m))), some (vI (nI j))] [] σ) (P := glF R u m) (r := fun j => some (some (vI (nI j)), σ)) (nP R) (fun j hj => by
    show Vv _ _ _ _ _ _ = _
    have eg : glF R u m j = (!Nat.testBit u j && see R (fal R) j (lh R m)) := rfl
    rw [v_Sight_firstThatSees_2, h.1.prP.1, if_pos (nI_lt hj (by omega)), bit_ne, bit_n hx (by omega), k_isSeen (i := 0) h.1 h.2.1 hj hh, cI_s, tv_ite, nI_1, hxu j hj, eg]
    cases Nat.testBit u j <;> cases see R (fal R) j (lh R m) <;> rfl)
  refine Eq.trans hl ?_
  have he : Vv 106 0 2 [some (vR 72 0), some (vI (nI x)), some (vI (nI (lh R m))), some (vI (nI (nP R)))] [] σ = some (some (vI (-1)), σ) := by
    rw [v_Sight_firstThatSees_2, h.1.prP.1, if_neg (nI_nlt (Nat.le_refl _) (by omega))]
  show cond _ _ (Vv _ _ _ _ _ _) = _
  rw [he]
  cases ex (glF R u m) (nP R) <;> rfl
theorem am_some {P : Nat → Bool} {lt : Nat → Nat → Bool} : ∀ {n p : Nat}, p < n → P p = true → am P lt n ≠ none
  | n + 1, p, hp, hP => by
    rw [am_s]
    cases hq : am P lt n with
    | none =>
      by_cases hpn : p < n
      · exact absurd hq (am_some hpn hP)
      · have : p = n := by omega
        subst this
        show cond (P p) (some p) none ≠ none
        rw [hP]
        exact fun z => by cases z
    | some b =>
      show cond (P n && lt b n) (some n) (some b) ≠ none
      cases (P n && lt b n)
      · exact fun z => by cases z
      · exact fun z => by cases z
/-- he finds a place as long as one is free -/
theorem tko_p {R : RF} {u m : Nat} (hf : ∃ p, p < nP R ∧ Nat.testBit u p = false) : ∃ p, p < nP R ∧ Nat.testBit u p = false ∧ tko R u m = nI p := by
  unfold tko
  cases he : ex (glF R u m) (nP R)
  · rw [cond_false]
    cases hq : am (frF u) (ltW R) (nP R) with
    | none =>
      obtain ⟨p, hp, hb⟩ := hf
      exact absurd hq (am_some hp (show frF u p = true by unfold frF; rw [hb]; rfl))
    | some b =>
      obtain ⟨h1, h2⟩ := am_in hq
      refine ⟨b, h1, ?_, rfl⟩
      unfold frF at h2
      cases hz : Nat.testBit u b
      · rfl
      · rw [hz] at h2; cases h2
  · rw [cond_true]
    have hl : fr (glF R u m) (nP R) 0 < 0 + nP R := by
      have := of_decide_eq_true (show decide (fr (glF R u m) (nP R) 0 < nP R) = true from he)
      omega
    have h1 := fr_at (glF R u m) (nP R) 0 hl
    refine ⟨_, by omega, ?_, rfl⟩
    unfold glF at h1
    rw [Bool.and_eq_true] at h1
    have h1 := h1.1
    unfold glF
    revert h1
    cases Nat.testBit u _
    · exact fun _ => rfl
    · exact fun z => by cases z
