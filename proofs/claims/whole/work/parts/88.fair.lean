/-! ROWS: fair() -/
def wq (R : RF) (p : Nat) : Nat := wth R (see R (fal R) p)
def mnN (w f : Nat → Nat) : Nat → Nat
  | 0 => 100000
  | j + 1 => if mnN w f j < w (f j) then mnN w f j else w (f j)
theorem mnN_b (w f : Nat → Nat) : ∀ n, mnN w f n ≤ 100000
  | 0 => Nat.le_refl _
  | n + 1 => by
    have := mnN_b w f n
    show (if mnN w f n < w (f n) then mnN w f n else w (f n)) ≤ _
    split <;> omega
theorem mnN_le {w f : Nat → Nat} : ∀ {n i : Nat}, i < n → mnN w f n ≤ w (f i)
  | n + 1, i, hi => by
    show (if mnN w f n < w (f n) then mnN w f n else w (f n)) ≤ _
    by_cases hin : i = n
    · subst hin
      split <;> omega
    · have := mnN_le (w := w) (f := f) (n := n) (i := i) (by omega)
      split <;> omega
theorem mnN_ge {w f : Nat → Nat} {c : Nat} (hc : c ≤ 100000) : ∀ {n : Nat}, (∀ i, i < n → c ≤ w (f i)) → c ≤ mnN w f n
  | 0, _ => hc
  | n + 1, h => by
    have h1 := mnN_ge (w := w) (f := f) hc (n := n) (fun i hi => h i (by omega))
    have h2 := h n (by omega)
    show c ≤ (if mnN w f n < w (f n) then mnN w f n else w (f n))
    split <;> omega
theorem mnN_at {w f : Nat → Nat} (hw : ∀ p, w p ≤ 693) : ∀ {n : Nat}, 0 < n → ∃ i, i < n ∧ mnN w f n = w (f i)
  | n + 1, _ => by
    have hn := hw (f n)
    show ∃ i, i < n + 1 ∧ (if mnN w f n < w (f n) then mnN w f n else w (f n)) = w (f i)
    by_cases h1 : mnN w f n < w (f n)
    · rw [if_pos h1]
      rcases Nat.eq_zero_or_pos n with h0 | h0
      · subst h0
        have : mnN w f 0 = 100000 := rfl
        omega
      · obtain ⟨i, hi, e⟩ := mnN_at (w := w) (f := f) hw h0
        exact ⟨i, by omega, e⟩
    · rw [if_neg h1]
      exact ⟨n, by omega, rfl⟩
theorem mnw_n {R : RF} (h : WF R) (f : Nat → Nat) : ∀ n, mnw R f n = nI (mnN (wq R) f n)
  | 0 => rfl
  | n + 1 => by
    have b1 := mnN_b (wq R) f n
    have b2 : wq R (f n) ≤ 693 := wth_le h _
    show (if mnw R f n < nI (wq R (f n)) then mnw R f n else nI (wq R (f n))) = nI (if mnN (wq R) f n < wq R (f n) then mnN (wq R) f n else wq R (f n))
    rw [mnw_n h f n]
    by_cases h1 : mnN (wq R) f n < wq R (f n)
    · rw [if_pos h1, if_pos (nI_lt h1 (by omega))]
    · rw [if_neg h1, if_neg (nI_nlt (by omega) (by omega))]
def mnr (R : RF) (r : List Nat) : Nat := mnN (wq R) (ex2 (fun _ => 0) 0 r) (nL R)
theorem rv2_n {R : RF} (h : WF R) : ∀ (l : List (List Nat)) (m0 : Nat), m0 ≤ 100000 → ∃ m, rv2 R (fun _ => 0) 0 l (nI m0) = nI m ∧ m0 ≤ m ∧ (∀ r, r ∈ l → mnr R r ≤ m) ∧ (m = m0 ∨ ∃ r, r ∈ l ∧ m = mnr R r)
  | [], m0, _ => ⟨m0, rfl, Nat.le_refl _, fun r hr => (by cases hr), Or.inl rfl⟩
  | r :: l, m0, h0 => by
    have b1 : mnr R r ≤ 100000 := mnN_b _ _ _
    have e : rv2 R (fun _ => 0) 0 (r :: l) (nI m0) = rv2 R (fun _ => 0) 0 l (nI (if mnr R r < m0 then m0 else mnr R r)) := by
      show rv2 R (fun _ => 0) 0 l (fst2 R (ex2 (fun _ => 0) 0 r) (nI m0)) = _
      unfold fst2
      rw [mnw_n h]
      show rv2 R (fun _ => 0) 0 l (if nI (mnr R r) < nI m0 then nI m0 else nI (mnr R r)) = _
      by_cases h1 : mnr R r < m0
      · rw [if_pos h1, if_pos (nI_lt h1 (by omega))]
      · rw [if_neg h1, if_neg (nI_nlt (by omega) (by omega))]
    have hc : (if mnr R r < m0 then m0 else mnr R r) ≤ 100000 := by split <;> omega
    obtain ⟨m, e1, e2, e3, e4⟩ := rv2_n h l (if mnr R r < m0 then m0 else mnr R r) hc
    have e5 : m0 ≤ m ∧ mnr R r ≤ m := by
      constructor
      · split at e2 <;> omega
      · split at e2 <;> omega
    refine ⟨m, e.trans e1, e5.1, fun r' hr' => ?_, ?_⟩
    · cases hr' with
      | head => exact e5.2
      | tail _ h3 => exact e3 r' h3
    · rcases e4 with e4 | ⟨r', h1, h2⟩
      · by_cases h1 : mnr R r < m0
        · rw [if_pos h1] at e4
          exact Or.inl e4
        · rw [if_neg h1] at e4
          exact Or.inr ⟨r, List.mem_cons_self, e4⟩
      · exact Or.inr ⟨r', List.mem_cons_of_mem _ h1, h2⟩
theorem FVR_m {R : RF} (h : WF R) : ∃ m, FVR R = nI m ∧ (∀ r, r ∈ rws (nP R) (nL R) 0 → mnr R r ≤ m) ∧ ∃ r, r ∈ rws (nP R) (nL R) 0 ∧ m = mnr R r := by
  have hb := h.1.1
  have hl := vp_le (vp_told h)
  have hp := hmr_pos hl
  have hne : rws (nP R) (nL R) 0 ≠ [] := fun z => by
    have e := rws_n (nP R) (by omega) (nL R) (by omega)
    rw [z] at e
    have e2 := congrArg List.length e
    rw [List.length_map, List.length_range] at e2
    have : hmr (nP R) (nL R) = 0 := e2
    omega
  unfold FVR
  cases hl : rws (nP R) (nL R) 0 with
  | nil => exact absurd hl hne
  | cons r l =>
    have b1 : mnr R r ≤ 100000 := mnN_b _ _ _
    have e : rv2 R (fun _ => 0) 0 (r :: l) (-1) = rv2 R (fun _ => 0) 0 l (nI (mnr R r)) := by
      show rv2 R (fun _ => 0) 0 l (fst2 R (ex2 (fun _ => 0) 0 r) (-1)) = _
      unfold fst2
      rw [mnw_n h]
      show rv2 R (fun _ => 0) 0 l (if nI (mnr R r) < -1 then -1 else nI (mnr R r)) = _
      rw [if_neg (fun z => by
        rw [Int32.lt_iff_toInt_lt, nI_toInt (by omega), show (-1 : Int32).toInt = -1 from rfl] at z
        omega)]
    obtain ⟨m, e1, e2, e3, e4⟩ := rv2_n h l (mnr R r) b1
    refine ⟨m, e.trans e1, fun r' hr' => ?_, ?_⟩
    · cases hr' with
      | head => exact e2
      | tail _ h3 => exact e3 r' h3
    · rcases e4 with e4 | ⟨r', h1, h2⟩
      · exact ⟨r, List.mem_cons_self, e4⟩
      · exact ⟨r', List.mem_cons_of_mem _ h1, h2⟩
/-- how many are worth as much as p -/
def cnt (R : RF) (p : Nat) : Nat := cn (fun q => !decide (wq R q < wq R p)) (nP R)
def nbW (R : RF) : Nat → Nat
  | 0 => 0
  | p + 1 => cond (Nat.ble (nL R) (cnt R p)) (if nbW R p < wq R p then wq R p else nbW R p) (nbW R p)
theorem nb_ge {R : RF} : ∀ {n p : Nat}, p < n → nL R ≤ cnt R p → wq R p ≤ nbW R n
  | n + 1, p, hp, hc => by
    show _ ≤ cond (Nat.ble (nL R) (cnt R n)) (if nbW R n < wq R n then wq R n else nbW R n) (nbW R n)
    by_cases hpn : p = n
    · subst hpn
      rw [Nat.ble_eq.mpr hc, cond_true]
      split <;> omega
    · have := nb_ge (R := R) (n := n) (p := p) (by omega) hc
      cases Nat.ble (nL R) (cnt R n)
      · exact this
      · rw [cond_true]
        split <;> omega
theorem nb_at {R : RF} : ∀ n, nbW R n = 0 ∨ ∃ p, p < n ∧ nL R ≤ cnt R p ∧ nbW R n = wq R p
  | 0 => Or.inl rfl
  | n + 1 => by
    have ih := nb_at (R := R) n
    have ih' : nbW R n = 0 ∨ ∃ p, p < n + 1 ∧ nL R ≤ cnt R p ∧ nbW R n = wq R p := by
      rcases ih with h | ⟨p, h1, h2⟩
      · exact Or.inl h
      · exact Or.inr ⟨p, by omega, h2⟩
    show cond (Nat.ble (nL R) (cnt R n)) (if nbW R n < wq R n then wq R n else nbW R n) (nbW R n) = 0 ∨ ∃ p, p < n + 1 ∧ nL R ≤ cnt R p ∧ cond (Nat.ble (nL R) (cnt R n)) (if nbW R n < wq R n then wq R n else nbW R n) (nbW R n) = wq R p
    cases hb : Nat.ble (nL R) (cnt R n)
    · exact ih'
    · rw [cond_true]
      by_cases h1 : nbW R n < wq R n
      · rw [if_pos h1]
        exact Or.inr ⟨n, by omega, Nat.le_of_ble_eq_true hb, rfl⟩
      · rw [if_neg h1]
        exact ih'
def msk (R : RF) (p : Nat) : Nat := bn (fun q => !decide (wq R q < wq R p)) (nP R)
theorem msk_t {R : RF} {p q : Nat} (hq : q < nP R) : Nat.testBit (msk R p) q = !decide (wq R q < wq R p) := by
  unfold msk
  rw [bn_tb, decide_eq_true hq, Bool.true_and]
theorem msk_c (R : RF) (p : Nat) : cn (Nat.testBit (msk R p)) (nP R) = cnt R p := sm_congr (fun q hq => by
  show cond (Nat.testBit (msk R p) q) 1 0 = cond (!decide (wq R q < wq R p)) 1 0
  rw [msk_t hq])
theorem ex2_0 (r : List Nat) (j : Nat) : ex2 (fun _ => 0) 0 r j = r.getD j 0 := by
  unfold ex2
  rw [if_neg (by omega), Nat.sub_zero]
theorem getD_el {r : List Nat} {i : Nat} (hi : i < r.length) : r.getD i 0 = r[i] := by
  simp [List.getD, hi]
theorem getD_in {r : List Nat} {i : Nat} (hi : i < r.length) : r.getD i 0 ∈ r := by
  rw [getD_el hi]
  exact List.getElem_mem hi
theorem in_getD {r : List Nat} {y : Nat} (hy : y ∈ r) : ∃ i, i < r.length ∧ r.getD i 0 = y := by
  obtain ⟨i, hi, e⟩ := List.mem_iff_getElem.mp hy
  exact ⟨i, hi, by rw [getD_el hi, e]⟩
theorem fair_eq {R : RF} (h : WF R) (hL : 0 < nL R) : FVR R = nI (nbW R (nP R)) := by
  have hb := h.1.1
  have hl := vp_le (vp_told h)
  have hw : ∀ p, wq R p ≤ 693 := fun p => wth_le h _
  obtain ⟨m, e1, e2, r, hr, e3⟩ := FVR_m h
  rw [e1]
  congr 1
  apply Nat.le_antisymm
  · obtain ⟨i, hi, e4⟩ := mnN_at (w := wq R) (f := ex2 (fun _ => 0) 0 r) hw hL
    have hlen := rws_len (nP R) (nL R) 0 r hr
    have hx : ex2 (fun _ => 0) 0 r i ∈ r := by
      rw [ex2_0]
      exact getD_in (by omega)
    have hxP := rws_lt (nP R) (nL R) 0 r hr _ hx
    generalize hxe : ex2 (fun _ => 0) 0 r i = x at e4 hx hxP
    have hm : m = wq R x := e3.trans e4
    rw [hm]
    refine nb_ge hxP ?_
    have hS : msk R x < 2 ^ nP R := bn_lt _ _
    have hall : r.all (Nat.testBit (msk R x)) = true := List.all_eq_true.mpr (fun y hy => by
      rw [msk_t (rws_lt (nP R) (nL R) 0 r hr y hy)]
      obtain ⟨j, hj, ej⟩ := in_getD hy
      have := mnN_le (w := wq R) (f := ex2 (fun _ => 0) 0 r) (n := nL R) (i := j) (by omega)
      rw [ex2_0, ej, e4] at this
      rw [decide_eq_false (by omega)]
      rfl)
    have q := List.all_eq_true.mp (List.all_eq_true.mp (rw_in (nP R) (by omega) (nL R) (by omega)) r hr) (msk R x) (List.mem_range.mpr hS)
    rw [hall, cond_true, msk_c] at q
    exact Nat.le_of_ble_eq_true q
  · rcases nb_at (R := R) (nP R) with h0 | ⟨p, hp, hc, e4⟩
    · rw [h0]
      exact Nat.zero_le _
    · rw [e4]
      have hS : msk R p < 2 ^ nP R := bn_lt _ _
      have q := List.all_eq_true.mp (rw_has (nP R) (by omega) (nL R) (by omega)) (msk R p) (List.mem_range.mpr hS)
      rw [msk_c, Nat.ble_eq.mpr hc, cond_true] at q
      obtain ⟨r', hr', hq⟩ := List.any_eq_true.mp q
      have hlen := rws_len (nP R) (nL R) 0 r' hr'
      refine Nat.le_trans (mnN_ge (w := wq R) (f := ex2 (fun _ => 0) 0 r') (c := wq R p) (by have := hw p; omega) (n := nL R) (fun i hi => ?_)) (e2 r' hr')
      have hx : r'.getD i 0 ∈ r' := getD_in (by omega)
      have q2 := List.all_eq_true.mp hq _ hx
      rw [msk_t (rws_lt (nP R) (nL R) 0 r' hr' _ hx)] at q2
      rw [ex2_0]
      have q3 : decide (wq R (r'.getD i 0) < wq R p) = false := by
        cases hz : decide (wq R (r'.getD i 0) < wq R p)
        · rfl
        · rw [hz] at q2; cases q2
      have := of_decide_eq_false q3
      omega
theorem k_nth {σ : St} {R : RF} (h : HV σ R) : Cc 107 0 [vR 72 0, vI (nI (nL R))] σ = some (some (vI (nI (nbW R (nP R)))), σ) := by
  have hbb := h.1.b
  have hw : ∀ p, wq R p ≤ 693 := fun p => wth_le h.1.1 _
  have hs : ∀ p, p < nP R → gI σ 3273 0 p = nI (wq R p) := fun p hp => (h.2.1 p hp).2
  have nb_b : ∀ n, nbW R n ≤ 693 := fun n => by
    rcases nb_at (R := R) n with h0 | ⟨p, _, _, e⟩
    · omega
    · have := hw p
      omega
  rw [c_Sight_worthOfNthBest]
  refine (lpU (V := fun p => Vv 107 0 4 [some (vR 72 0), some (vI (nI (nL R))), some (vI (nI (nbW R p))), some (vI (nI p)), none, none] [] σ) (n := nP R) (fun p hp => ?_)).trans ?_
  · show Vv _ _ _ _ _ _ = Vv _ _ _ _ _ _
    rw [v_Sight_worthOfNthBest_4, h.1.prP.1, if_pos (nI_lt hp (by omega))]
    refine (lpC (V := fun x q => Vv 107 0 24 [some (vR 72 0), some (vI (nI (nL R))), some (vI (nI (nbW R p))), some (vI (nI p)), some (vI x), some (vI (nI q))] [] σ) (P := fun q => !decide (wq R q < wq R p)) (n := nP R) (fun q x hq => ?_)).trans ?_
    · show Vv _ _ _ _ _ _ = cond _ (Vv _ _ _ _ _ _) (Vv _ _ _ _ _ _)
      have w1 := hw p
      have w2 := hw q
      rw [v_Sight_worthOfNthBest_24, h.1.prP.1, if_pos (nI_lt hq (by omega)), ix_nI (by omega) (by omega), ix_nI (by omega) (by omega), hs q hq, hs p hp, nI_1]
      by_cases hc : wq R q < wq R p
      · rw [if_pos (nI_lt hc (by omega)), decide_eq_true hc]
        rfl
      · rw [if_neg (nI_nlt (by omega) (by omega)), decide_eq_false hc]
        rfl
    · show Vv _ _ _ _ _ _ = _
      have ec : cn (fun q => !decide (wq R q < wq R p)) (nP R) = cnt R p := rfl
      have hcl : cnt R p ≤ nP R := cn_le _ _
      have w1 := hw p
      have w3 := nb_b p
      have en : nbW R (p + 1) = cond (Nat.ble (nL R) (cnt R p)) (if nbW R p < wq R p then wq R p else nbW R p) (nbW R p) := rfl
      rw [v_Sight_worthOfNthBest_24, h.1.prP.1, if_neg (nI_nlt (Nat.le_refl _) (by omega)), ec, ix_nI (by omega) (by omega), hs p hp, nI_1, en]
      by_cases hc : cnt R p < nL R
      · rw [if_pos (nI_lt hc (by omega))]
        have : Nat.ble (nL R) (cnt R p) = false := by
          cases hz : Nat.ble (nL R) (cnt R p)
          · rfl
          · have := Nat.le_of_ble_eq_true hz
            omega
        rw [this]
        rfl
      · rw [if_neg (nI_nlt (by omega) (by omega)), Nat.ble_eq.mpr (by omega), cond_true]
        by_cases hd : nbW R p < wq R p
        · rw [if_pos (nI_lt hd (by omega)), if_pos hd]
        · rw [if_neg (nI_nlt (by omega) (by omega)), if_neg hd]
  · show Vv _ _ _ _ _ _ = _
    rw [v_Sight_worthOfNthBest_4, h.1.prP.1, if_neg (nI_nlt (Nat.le_refl _) (by omega))]
theorem t_fair {σ : St} {R : RF} (h : HV σ R) : RC 148 [] σ (vI (cond (decide (0 < nN R)) (cond (decide (nL R = 0)) (-1) (FVR R)) (-2))) := by
  have hbb := h.1.b
  refine RC_of (by rw [c_H_fair, h_isTold h.1, cI_s, tv_ite]) (fun _ => ⟨σ, ?_, Fr.rf⟩)
  rw [h.1.prL.1]
  by_cases h0 : nL R = 0
  · rw [if_pos (by rw [h0]; rfl), decide_eq_true h0]
    rfl
  · rw [if_neg (nI_ne0 (by omega) (by omega)), decide_eq_false h0, k_nth h, cI_s, cond_false, fair_eq h.1.1 (by omega)]
