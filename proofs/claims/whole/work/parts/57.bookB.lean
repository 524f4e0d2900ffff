/-! THE BOOK (reference): where he was at first -/
/-- he was at p at first, who was there is where he is told -/
def stw (R : RF) (l p : Nat) : Nat → Nat := fun k => if k = l then p else if lp R k = p then lp R l else lp R k
theorem vp_stw {R : RF} (hw : WF R) {l p : Nat} (hl : l < nL R) (hp : p < nP R) : VP R (stw R l p) := by
  have ht := vp_told hw
  refine ⟨fun k hk => ?_, fun a b ha hb e => ?_⟩
  · unfold stw
    split
    · exact hp
    · split
      · exact ht.1 l hl
      · exact ht.1 k hk
  · unfold stw at e
    have g1 := ht.2 a b ha hb
    have g2 := ht.2 a l ha hl
    have g3 := ht.2 b l hb hl
    have g4 := ht.2 l a hl ha
    have g5 := ht.2 l b hl hb
    split at e <;> split at e <;> (try split at e) <;> (try split at e) <;> (try omega)
def PW (R : RF) (l p : Nat) : Nat → Nat → Nat := ps R (see R (fal R)) (lw R) (fun _ => true) (stw R l p)
def fB (R : RF) (K : KT) (s l p : Nat) : Bool := swB K (see R (fal R)) (PW R l p) l s
/-- by how many of the first n places he is there then -/
def oft (R : RF) (K : KT) (s l n y q : Nat) : Nat := cn (fun p => fB R K s l p && decide (PW R l p y l = q)) n
def mxN (f : Nat → Nat) : Nat → Nat
  | 0 => 0
  | n + 1 => max (mxN f n) (f n)
def wor (R : RF) (K : KT) (s l y : Nat) : Nat := mxN (oft R K s l (nP R) y) (nP R)
/-- the year to ask for, and how many it leaves -/
def aq (R : RF) (K : KT) (s l : Nat) : Nat → Int32 × Nat
  | 0 => (-1, cn (fB R K s l) (nP R))
  | y + 1 => cond (decide (wor R K s l y < (aq R K s l y).2)) (nI y, wor R K s l y) (aq R K s l y)
theorem mxN_le {f : Nat → Nat} {c : Nat} : ∀ {n : Nat}, (∀ k, k < n → f k ≤ c) → mxN f n ≤ c
  | 0, _ => Nat.zero_le _
  | n + 1, h => by
    have h1 := mxN_le (f := f) (c := c) (n := n) (fun k hk => h k (by omega))
    have h2 := h n (by omega)
    show max (mxN f n) (f n) ≤ c
    omega
theorem oft_le (R : RF) (K : KT) (s l n y q : Nat) : oft R K s l n y q ≤ n := cn_le _ _
theorem wor_le (R : RF) (K : KT) (s l y : Nat) : wor R K s l y ≤ nP R := mxN_le (fun k _ => oft_le _ _ _ _ _ _ _)
theorem aq_le (R : RF) (K : KT) (s l : Nat) : ∀ y, (aq R K s l y).2 ≤ nP R
  | 0 => cn_le _ _
  | y + 1 => by
    have ih := aq_le R K s l y
    show (cond (decide (wor R K s l y < (aq R K s l y).2)) (nI y, wor R K s l y) (aq R K s l y)).2 ≤ _
    cases decide (wor R K s l y < (aq R K s l y).2)
    · exact ih
    · exact wor_le R K s l y
/-- what stands behind the first n places -/
def LF (σ : St) (R : RF) (K : KT) (s l n : Nat) : Prop := HK σ R K ∧ gI σ 96 0 41 = nI (bn (fB R K s l) n) ∧ ∀ y, y ≤ yr R → ∀ q, q < 6 → gI σ 40417 0 (6 * y + q) = nI (oft R K s l n y q)
theorem l_first7 {σ : St} (a1 a2 : Int32) : Vv 340 0 7 [some (vR 96 0), some (vI a1), some (vI a2), some (vI 0), none, none] [] σ = Vv 340 0 28 [some (vR 96 0), some (vI a1), some (vI a2), some (vI 0), none, none] [] (pI σ 40417 0 (fun q => if q < 78 then 0 else gI σ 40417 0 q)) := by
  have hl := lpU (V := fun j => Vv 340 0 7 [some (vR 96 0), some (vI a1), some (vI a2), some (vI (nI j)), none, none] [] (pI σ 40417 0 (fun q => if q < j then 0 else gI σ 40417 0 q))) (n := 78) (fun j hj => by
    show Vv _ _ _ _ _ _ = Vv _ _ _ _ _ _
    have e : nI j < (78 : Int32) := nI_lt (b := 78) hj (by omega)
    rw [v_M_laysFirsts_7, if_pos e, ix_nI hj (by omega), sI_pI, nI_1]
    congr 2
    funext q
    unfold upd
    try dsimp only
    by_cases hq : q = j
    · rw [if_pos hq, if_pos (by omega)]
    · rw [if_neg hq]
      by_cases hq2 : q < j
      · rw [if_pos hq2, if_pos (by omega)]
      · rw [if_neg hq2, if_neg (by omega)])
  have e0 : pI σ 40417 0 (fun q => if q < 0 then 0 else gI σ 40417 0 q) = σ := by
    have : (fun q => if q < 0 then 0 else gI σ 40417 0 q) = gI σ 40417 0 := by
      funext q
      rw [if_neg (by omega)]
    rw [this, pI_id]
  have hl : Vv 340 0 7 [some (vR 96 0), some (vI a1), some (vI a2), some (vI (nI 0)), none, none] [] (pI σ 40417 0 (fun q => if q < 0 then 0 else gI σ 40417 0 q)) = Vv 340 0 7 [some (vR 96 0), some (vI a1), some (vI a2), some (vI (nI 78)), none, none] [] (pI σ 40417 0 (fun q => if q < 78 then 0 else gI σ 40417 0 q)) := hl
  rw [e0] at hl
  refine Eq.trans hl ?_
  have e : ¬ nI 78 < (78 : Int32) := by decide
  rw [v_M_laysFirsts_7, if_neg e]
def stS (t _i _j : Nat) : Bool := Nat.beq t 3497
theorem l_first43 {σ : St} {R : RF} (h : H0 σ R) (a1 : Int32) {l p : Nat} (hl : l < nL R) (hp : p < nP R) (hst : ∀ k, k < nL R → gI σ 3497 0 k = nI (lp R k)) : ∃ σ', Vv 340 0 43 [some (vR 96 0), some (vI a1), some (vI (nI l)), some (vI (nI p)), some (vI 0), none] [] σ = cV (Cc 270 0 [vR 96 0] σ') (fun σ7 => cI (Cc 339 0 [vR 96 0, vI a1, vI (nI l)] σ7) (fun x9 σ8 => if x9 = 0 then Vv 340 0 28 [some (vR 96 0), some (vI a1), some (vI (nI l)), some (vI (nI (p + 1))), none, none] [] σ8 else Vv 340 0 122 [some (vR 96 0), some (vI a1), some (vI (nI l)), some (vI (nI p)), some (vI 0), none] [] (sI σ8 96 0 41 ((gI σ8 96 0 41) ||| ((1 : Int32) <<< (nI p &&& 31)))))) ∧ Fr stS σ σ' ∧ ∀ k, k < nL R → gI σ' 3497 0 k = nI (stw R l p k) := by
  have hbb := h.b
  have ht := vp_told h.1
  have hs := lpU (V := fun j => Vv 340 0 43 [some (vR 96 0), some (vI a1), some (vI (nI l)), some (vI (nI p)), some (vI (nI j)), none] [] (pI σ 3497 0 (fun q => if q < j then nI (if lp R q = p then lp R l else lp R q) else gI σ 3497 0 q))) (n := nL R) (fun j hj => by
    show Vv _ _ _ _ _ _ = Vv _ _ _ _ _ _
    have hH : H0 (pI σ 3497 0 (fun q => if q < j then nI (if lp R q = p then lp R l else lp R q) else gI σ 3497 0 q)) R := h.p (fun _ => rfl)
    have hpj := ht.1 j hj
    rw [v_M_laysFirsts_43, cI_L hH, if_pos (nI_lt hj (by omega)), ix_nI (by omega) (by omega), gI_pIs, if_neg (show ¬ j < j by omega), hst j hj, two_n, ix_nI (by omega) (by omega), ix_nI (by omega) (by omega), hH.lp hl, sI_pI, nI_1]
    by_cases hz : lp R j = p
    · rw [if_pos (by rw [hz])]
      congr 2
      funext q
      unfold upd
      try dsimp only
      by_cases hq : q = j
      · rw [if_pos hq, if_pos (by omega), hq, if_pos hz]
      · rw [if_neg hq]
        by_cases hq2 : q < j
        · rw [if_pos hq2, if_pos (show q < j + 1 by omega)]
        · rw [if_neg hq2, if_neg (show ¬ q < j + 1 by omega)]
    · rw [if_neg (fun z => hz ((nI_eq (by omega) (by omega)).mp z))]
      congr 2
      funext q
      by_cases hq : q = j
      · rw [if_neg (by omega), if_pos (by omega), hq, if_neg hz, hst j hj]
      · by_cases hq2 : q < j
        · rw [if_pos hq2, if_pos (show q < j + 1 by omega)]
        · rw [if_neg hq2, if_neg (show ¬ q < j + 1 by omega)])
  have e0 : pI σ 3497 0 (fun q => if q < 0 then nI (if lp R q = p then lp R l else lp R q) else gI σ 3497 0 q) = σ := by
    have : (fun q => if q < 0 then nI (if lp R q = p then lp R l else lp R q) else gI σ 3497 0 q) = gI σ 3497 0 := by
      funext q
      rw [if_neg (by omega)]
    rw [this, pI_id]
  have hs : Vv 340 0 43 [some (vR 96 0), some (vI a1), some (vI (nI l)), some (vI (nI p)), some (vI (nI 0)), none] [] (pI σ 3497 0 (fun q => if q < 0 then nI (if lp R q = p then lp R l else lp R q) else gI σ 3497 0 q)) = Vv 340 0 43 [some (vR 96 0), some (vI a1), some (vI (nI l)), some (vI (nI p)), some (vI (nI (nL R))), none] [] (pI σ 3497 0 (fun q => if q < nL R then nI (if lp R q = p then lp R l else lp R q) else gI σ 3497 0 q)) := hs
  rw [e0] at hs
  have hH : H0 (pI σ 3497 0 (fun q => if q < nL R then nI (if lp R q = p then lp R l else lp R q) else gI σ 3497 0 q)) R := h.p (fun _ => rfl)
  refine ⟨_, ?_, (Fr.rf.pI (fun _ => rfl)).sI (t := 3497) (i := 0) (j := l) (v := nI p) (σ' := pI σ 3497 0 (fun q => if q < nL R then nI (if lp R q = p then lp R l else lp R q) else gI σ 3497 0 q)) rfl, fun k hk => ?_⟩
  · refine Eq.trans hs ?_
    rw [v_M_laysFirsts_43, cI_L hH, if_neg (nI_nlt (Nat.le_refl _) (by omega)), ix_nI (by omega) (by omega), nI_1]
  · unfold stw
    by_cases hkl : k = l
    · rw [if_pos hkl, hkl, gI_sIs]
    · rw [if_neg hkl, gI_sIj hkl, gI_pIs, if_pos hk]
theorem l_first122 {σ : St} {R : RF} {P : Nat → Nat → Nat} (v : YV σ R (fal R) P) (a1 : Int32) {l p : Nat} (hl : l < nL R) (hp : p < nP R) : ∃ σ', Vv 340 0 122 [some (vR 96 0), some (vI a1), some (vI (nI l)), some (vI (nI p)), some (vI 0), none] [] σ = Vv 340 0 28 [some (vR 96 0), some (vI a1), some (vI (nI l)), some (vI (nI (p + 1))), none, none] [] σ' ∧ σ' = pI σ 40417 0 (fun i => if i / 6 < yr R + 1 ∧ i % 6 = P (i / 6) l then gI σ 40417 0 i + 1 else gI σ 40417 0 i) := by
  have hbb := v.1.b
  refine ⟨_, ?_, rfl⟩
  have hs := lpU (V := fun j => Vv 340 0 122 [some (vR 96 0), some (vI a1), some (vI (nI l)), some (vI (nI p)), some (vI (nI j)), none] [] (pI σ 40417 0 (fun i => if i / 6 < j ∧ i % 6 = P (i / 6) l then gI σ 40417 0 i + 1 else gI σ 40417 0 i))) (n := yr R + 1) (fun j hj => by
    show Vv _ _ _ _ _ _ = Vv _ _ _ _ _ _
    have hH : H0 (pI σ 40417 0 (fun i => if i / 6 < j ∧ i % 6 = P (i / 6) l then gI σ 40417 0 i + 1 else gI σ 40417 0 i)) R := v.1.p (fun _ => rfl)
    have hq := (v.2.2.2 j).1 l hl
    rw [v_M_laysFirsts_122, cI_Y hH, if_pos (nI_le (show j ≤ yr R by omega) (by omega)), six_n, nI_add, ix_nI (by omega) (by omega), gI_pIn (by decide), v.2.2.1 j (by omega) l hl, nI_add, ix_nI (by omega) (by omega), ix_nI (by omega) (by omega), gI_pIs, if_neg (by omega), sI_pI, nI_1]
    congr 2
    funext i
    unfold upd
    try dsimp only
    by_cases hi : i = 6 * j + P j l
    · rw [if_pos hi]
      have h1 : i / 6 = j := by omega
      have h2 : i % 6 = P j l := by omega
      rw [if_pos ⟨by omega, by rw [h1]; exact h2⟩, hi]
    · rw [if_neg hi]
      by_cases hi2 : i / 6 < j ∧ i % 6 = P (i / 6) l
      · rw [if_pos hi2, if_pos ⟨by omega, hi2.2⟩]
      · rw [if_neg hi2, if_neg]
        rintro ⟨h1, h2⟩
        by_cases h3 : i / 6 = j
        · rw [h3] at h2
          omega
        · exact hi2 ⟨by omega, h2⟩)
  have e0 : pI σ 40417 0 (fun i => if i / 6 < 0 ∧ i % 6 = P (i / 6) l then gI σ 40417 0 i + 1 else gI σ 40417 0 i) = σ := by
    have : (fun i => if i / 6 < 0 ∧ i % 6 = P (i / 6) l then gI σ 40417 0 i + 1 else gI σ 40417 0 i) = gI σ 40417 0 := by
      funext q
      rw [if_neg (by omega)]
    rw [this, pI_id]
  have hs : Vv 340 0 122 [some (vR 96 0), some (vI a1), some (vI (nI l)), some (vI (nI p)), some (vI (nI 0)), none] [] (pI σ 40417 0 (fun i => if i / 6 < 0 ∧ i % 6 = P (i / 6) l then gI σ 40417 0 i + 1 else gI σ 40417 0 i)) = Vv 340 0 122 [some (vR 96 0), some (vI a1), some (vI (nI l)), some (vI (nI p)), some (vI (nI (yr R + 1))), none] [] (pI σ 40417 0 (fun i => if i / 6 < yr R + 1 ∧ i % 6 = P (i / 6) l then gI σ 40417 0 i + 1 else gI σ 40417 0 i)) := hs
  rw [e0] at hs
  refine Eq.trans hs ?_
  have hH : H0 (pI σ 40417 0 (fun i => if i / 6 < yr R + 1 ∧ i % 6 = P (i / 6) l then gI σ 40417 0 i + 1 else gI σ 40417 0 i)) R := v.1.p (fun _ => rfl)
  rw [v_M_laysFirsts_122, cI_Y hH, if_neg (nI_ge (by omega) (by omega)), nI_1]
theorem ly_up {σ σ' : St} (h : Fr lyS σ σ') : Fr scM σ σ' := h.up (fun t i j hq => by
  cases hz : lyS t i j
  · rfl
  · rw [ly_sc t i j hz] at hq
    cases hq)
theorem l_first28 {R : RF} {K : KT} {s l : Nat} (hs : s < 4) (hw : kw K s ≠ 4) (hl : l < nL R) (hb : bkB R K s = true) : ∀ (k p : Nat) (σ : St), p + k = nP R → LF σ R K s l p → ∃ σ', Vv 340 0 28 [some (vR 96 0), some (vI (nI s)), some (vI (nI l)), some (vI (nI p)), none, none] [] σ = Vv 340 0 28 [some (vR 96 0), some (vI (nI s)), some (vI (nI l)), some (vI (nI (nP R))), none, none] [] σ' ∧ Fr scM σ σ' ∧ LF σ' R K s l (nP R)
  | 0, p, σ, hp, hL => by
    have hp : p = nP R := by omega
    subst hp
    exact ⟨σ, rfl, Fr.rf, hL⟩
  | k + 1, p, σ, hp, hL => by
    have hbb := hL.1.1.b
    have hpP : p < nP R := by omega
    obtain ⟨σ1, c1, f1, h1, w1, m1, _, t1, s1⟩ := s_laysF hL.1.1
    obtain ⟨σ2, c2, f2, t2⟩ := l_first43 h1 (nI s) hl hpP t1
    have f2' : Fr lyS σ1 σ2 := f2.up (fun t i j hq => by
      cases hz : stS t i j
      · rfl
      · unfold stS at hz
        rw [Nat.eq_of_beq_eq_true hz] at hq
        cases hq)
    have h2 : H0 σ2 R := h1.f (ly_up f2')
    have hS2 : SE σ2 R (fal R) := fun q hq => (f2.i rfl).trans (s1 q hq)
    obtain ⟨σ3, c3, f3, a3⟩ := s_runs h2 hS2 (law := lw R) (by omega) ((f2.i rfl).trans w1) (mg := fun _ => true) ((f2.i rfl).trans m1) (vp_stw h1.1 hl hpP) t2
    have hF3 : Fr scM σ σ3 := ((ly_up f1).tr (ly_up f2')).tr (ry_up f3)
    have v3 : YV σ3 R (fal R) (PW R l p) := ⟨h2.fr f3 ry_sc, fun q hq => (f3.i rfl).trans (hS2 q hq), a3, vp_ps h1.1 (vp_stw h1.1 hl hpP) _ _ _⟩
    have hK3 := hL.1.2.f hF3
    have g41 : gI σ3 96 0 41 = nI (bn (fB R K s l) p) := ((f3.i rfl).trans ((f2.i rfl).trans (f1.i rfl))).trans hL.2.1
    have gof : ∀ y, y ≤ yr R → ∀ q, q < 6 → gI σ3 40417 0 (6 * y + q) = nI (oft R K s l p y q) := fun y hy q hq => ((f3.i rfl).trans ((f2.i rfl).trans (f1.i rfl))).trans (hL.2.2 y hy q hq)
    have hstep : Vv 340 0 28 [some (vR 96 0), some (vI (nI s)), some (vI (nI l)), some (vI (nI p)), none, none] [] σ = cond (fB R K s l p) (Vv 340 0 122 [some (vR 96 0), some (vI (nI s)), some (vI (nI l)), some (vI (nI p)), some (vI 0), none] [] (sI σ3 96 0 41 (nI (bn (fB R K s l) p) ||| ((1 : Int32) <<< (nI p &&& 31))))) (Vv 340 0 28 [some (vR 96 0), some (vI (nI s)), some (vI (nI l)), some (vI (nI (p + 1))), none, none] [] σ3) := by
      rw [v_M_laysFirsts_28, cI_P hL.1.1, if_pos (nI_lt hpP (by omega)), c1, cV_s, c2, c3, cV_s, s_isSo v3 hK3 hs hw hl hb, cI_s, tv_ite, g41]
      rfl
    have eo : ∀ y q, oft R K s l (p + 1) y q = oft R K s l p y q + cond (fB R K s l p && decide (PW R l p y l = q)) 1 0 := fun _ _ => rfl
    cases hq : fB R K s l p
    · rw [hq, cond_false] at hstep
      obtain ⟨σ4, c4, f4, L4⟩ := l_first28 hs hw hl hb k (p + 1) σ3 (by omega) ⟨⟨v3.1, hK3⟩, by rw [g41, bn_or0 hq], fun y hy q hq' => by
        rw [gof y hy q hq', eo, hq]
        rfl⟩
      exact ⟨σ4, hstep.trans c4, hF3.tr f4, L4⟩
    · rw [hq, cond_true, bn_or1 (by omega) hq] at hstep
      have hF4 : Fr scM σ3 (sI σ3 96 0 41 (nI (bn (fB R K s l) (p + 1)))) := Fr.rf.sI rfl
      have v4 : YV (sI σ3 96 0 41 (nI (bn (fB R K s l) (p + 1)))) R (fal R) (PW R l p) := ⟨v3.1.f hF4, fun q hq => (gI_sIn (by decide)).trans (v3.2.1 q hq), fun y hy q hq => (gI_sIn (by decide)).trans (v3.2.2.1 y hy q hq), v3.2.2.2⟩
      obtain ⟨σ5, c5, e5⟩ := l_first122 v4 (nI s) hl hpP
      have hF5 : Fr scM (sI σ3 96 0 41 (nI (bn (fB R K s l) (p + 1)))) σ5 := by
        rw [e5]
        exact Fr.rf.pI (fun _ => rfl)
      obtain ⟨σ6, c6, f6, L6⟩ := l_first28 hs hw hl hb k (p + 1) σ5 (by omega) ⟨⟨v4.1.f hF5, (hK3.f hF4).f hF5⟩, by rw [e5, gI_pIn (by decide), gI_sIs], fun y hy q hq' => by
        have d1 : (6 * y + q) / 6 = y := by omega
        have d2 : (6 * y + q) % 6 = q := by omega
        rw [e5, gI_pIs, d1, d2, gI_sIn (by decide), gof y hy q hq', eo, hq, Bool.true_and]
        by_cases hz : q = PW R l p y l
        · rw [if_pos ⟨by omega, hz⟩, decide_eq_true hz.symm, nI_1]
          rfl
        · rw [if_neg (fun z => hz z.2), decide_eq_false (fun z => hz z.symm)]
          rfl⟩
      exact ⟨σ6, (hstep.trans c5).trans c6, ((hF3.tr hF4).tr hF5).tr f6, L6⟩
theorem pc_bn : ∀ n, n < 9 → ∀ x, x < 256 → pc x = cn (Nat.testBit x) 8 := fun _ _ _ _ => rfl
theorem cn_more (P : Nat → Bool) {n : Nat} : ∀ d, cn (fun k => decide (k < n) && P k) (n + d) = cn P n
  | 0 => cn_congr (fun k hk => by rw [decide_eq_true (show k < n from hk)]; rfl)
  | d + 1 => by
    have ih := cn_more P (n := n) d
    show cn _ (n + d) + cond (decide (n + d < n) && P (n + d)) 1 0 = _
    rw [ih, decide_eq_false (by omega)]
    rfl
theorem pc_cn {P : Nat → Bool} {n : Nat} (hn : n ≤ 8) : pc (bn P n) = cn P n := by
  unfold pc
  have e : cn (Nat.testBit (bn P n)) 8 = cn (fun k => decide (k < n) && P k) (n + (8 - n)) := by
    rw [show n + (8 - n) = 8 by omega]
    exact cn_congr (fun k _ => by rw [bn_tb])
  rw [e, cn_more]
/-- what is left in the end -/
theorem l_first188 {R : RF} {K : KT} {s l : Nat} (a1 a2 : Int32) : ∀ (k y : Nat) (σ : St), y + k = yr R + 1 → H0 σ R → (∀ y, y ≤ yr R → ∀ q, q < 6 → gI σ 40417 0 (6 * y + q) = nI (oft R K s l (nP R) y q)) → gI σ 96 0 42 = (aq R K s l y).1 → gI σ 96 0 43 = nI (aq R K s l y).2 → ∃ σ', Vv 340 0 188 [some (vR 96 0), some (vI a1), some (vI a2), some (vI (nI y)), none, none] [] σ = some (none, σ') ∧ Fr (fun t _ j => Nat.beq t 96 && (Nat.beq j 42 || Nat.beq j 43)) σ σ' ∧ gI σ' 96 0 42 = (aq R K s l (yr R + 1)).1 ∧ gI σ' 96 0 43 = nI (aq R K s l (yr R + 1)).2
  | 0, y, σ, hy, h, ho, g2, g3 => by
    have hbb := h.b
    have hy : y = yr R + 1 := by omega
    subst hy
    refine ⟨σ, ?_, Fr.rf, g2, g3⟩
    rw [v_M_laysFirsts_188, cI_Y h, if_neg (nI_ge (by omega) (by omega))]
  | k + 1, y, σ, hy, h, ho, g2, g3 => by
    have hbb := h.b
    have hin := lpU (V := fun q => Vv 340 0 202 [some (vR 96 0), some (vI a1), some (vI a2), some (vI (nI y)), some (vI (nI (mxN (oft R K s l (nP R) y) q))), some (vI (nI q))] [] σ) (n := nP R) (fun q hq => by
      show Vv _ _ _ _ _ _ = Vv _ _ _ _ _ _
      have b1 := oft_le R K s l (nP R) y q
      have b2 : mxN (oft R K s l (nP R) y) q ≤ nP R := mxN_le (fun k _ => oft_le _ _ _ _ _ _ _)
      have em : (if nI (oft R K s l (nP R) y q) < nI (mxN (oft R K s l (nP R) y) q) then nI (mxN (oft R K s l (nP R) y) q) else nI (oft R K s l (nP R) y q)) = nI (mxN (oft R K s l (nP R) y) (q + 1)) := by
        show _ = nI (max (mxN (oft R K s l (nP R) y) q) (oft R K s l (nP R) y q))
        by_cases hz : oft R K s l (nP R) y q < mxN (oft R K s l (nP R) y) q
        · rw [if_pos (nI_lt hz (by omega)), Nat.max_eq_left (by omega)]
        · rw [if_neg (nI_nlt (by omega) (by omega)), Nat.max_eq_right (by omega)]
      rw [v_M_laysFirsts_202, cI_P h, if_pos (nI_lt hq (by omega)), six_n, nI_add, ix_nI (by omega) (by omega), ho y (by omega) q (by omega), s_moreOf, cI_s, em, nI_1])
    have hin : Vv 340 0 202 [some (vR 96 0), some (vI a1), some (vI a2), some (vI (nI y)), some (vI 0), some (vI 0)] [] σ = Vv 340 0 202 [some (vR 96 0), some (vI a1), some (vI a2), some (vI (nI y)), some (vI (nI (wor R K s l y))), some (vI (nI (nP R)))] [] σ := hin
    have b1 := wor_le R K s l y
    have b2 := aq_le R K s l y
    have es : aq R K s l (y + 1) = cond (decide (wor R K s l y < (aq R K s l y).2)) (nI y, wor R K s l y) (aq R K s l y) := rfl
    by_cases hz : wor R K s l y < (aq R K s l y).2
    · have hF : Fr (fun t _ j => Nat.beq t 96 && (Nat.beq j 42 || Nat.beq j 43)) σ (sI (sI σ 96 0 42 (nI y)) 96 0 43 (nI (wor R K s l y))) := (Fr.rf.sI rfl).sI rfl
      obtain ⟨σ2, c2, f2, r2⟩ := l_first188 (K := K) (s := s) (l := l) a1 a2 k (y + 1) (sI (sI σ 96 0 42 (nI y)) 96 0 43 (nI (wor R K s l y))) (by omega) ((h.s rfl).s rfl) (fun y hy q hq => by rw [gI_sIn (by decide), gI_sIn (by decide)]; exact ho y hy q hq) (by rw [gI_sIj (by decide), gI_sIs, es, decide_eq_true hz]; rfl) (by rw [gI_sIs, es, decide_eq_true hz]; rfl)
      refine ⟨σ2, ?_, hF.tr f2, r2⟩
      rw [v_M_laysFirsts_188, cI_Y h, if_pos (nI_le (show y ≤ yr R by omega) (by omega)), hin, v_M_laysFirsts_202, cI_P h, if_neg (nI_nlt (Nat.le_refl _) (by omega)), g3, if_pos (nI_lt hz (by omega)), nI_1]
      exact c2
    · obtain ⟨σ2, c2, f2, r2⟩ := l_first188 (K := K) (s := s) (l := l) a1 a2 k (y + 1) σ (by omega) h ho (by rw [g2, es, decide_eq_false hz]; rfl) (by rw [g3, es, decide_eq_false hz]; rfl)
      refine ⟨σ2, ?_, f2, r2⟩
      rw [v_M_laysFirsts_188, cI_Y h, if_pos (nI_le (show y ≤ yr R by omega) (by omega)), hin, v_M_laysFirsts_202, cI_P h, if_neg (nI_nlt (Nat.le_refl _) (by omega)), g3, if_neg (nI_nlt (by omega) (by omega)), nI_1]
      exact c2
theorem s_laysFirsts {σ : St} {R : RF} (h : H0 σ R) {K : KT} (hK : SM σ K) {s l : Nat} (hs : s < 4) (hw : kw K s ≠ 4) (hl : l < nL R) (hb : bkB R K s = true) : ∃ σ', Cc 340 0 [vR 96 0, vI (nI s), vI (nI l)] σ = some (none, σ') ∧ Fr scM σ σ' ∧ gI σ' 96 0 41 = nI (bn (fB R K s l) (nP R)) ∧ gI σ' 96 0 42 = (aq R K s l (yr R + 1)).1 ∧ gI σ' 96 0 43 = nI (aq R K s l (yr R + 1)).2 := by
  have hbb := h.b
  have hF1 : Fr scM σ (pI (sI σ 96 0 41 0) 40417 0 (fun q => if q < 78 then 0 else gI (sI σ 96 0 41 0) 40417 0 q)) := (Fr.rf.sI rfl).pI (fun _ => rfl)
  obtain ⟨σ2, c2, f2, L2⟩ := l_first28 hs hw hl hb (nP R) 0 (pI (sI σ 96 0 41 0) 40417 0 (fun q => if q < 78 then 0 else gI (sI σ 96 0 41 0) 40417 0 q)) (by omega) ⟨HK_f R K _ _ ⟨h, hK⟩ hF1, by rw [gI_pIn (by decide), gI_sIs]; rfl, fun y hy q hq => by
    rw [gI_pIs, if_pos (by omega)]
    rfl⟩
  have h2 := L2.1.1
  have hF3 : Fr scM σ2 (sI (sI σ2 96 0 42 (-1)) 96 0 43 (nI (cn (fB R K s l) (nP R)))) := (Fr.rf.sI rfl).sI rfl
  obtain ⟨σ4, c4, f4, r4⟩ := l_first188 (R := R) (K := K) (s := s) (l := l) (nI s) (nI l) (yr R + 1) 0 (sI (sI σ2 96 0 42 (-1)) 96 0 43 (nI (cn (fB R K s l) (nP R)))) (by omega) (h2.f hF3) (fun y hy q hq => by rw [gI_sIn (by decide), gI_sIn (by decide)]; exact L2.2.2 y hy q hq) (by rw [gI_sIj (by decide), gI_sIs]; rfl) (by rw [gI_sIs]; rfl)
  have hbl : bn (fB R K s l) (nP R) < 2 ^ 8 := bn_le (by omega)
  refine ⟨σ4, ?_, (hF1.tr f2).tr (hF3.tr (f4.up (fun t i j hq => ?_))), (f4.i rfl).trans (by rw [gI_sIj (by decide), gI_sIj (by decide), L2.2.1]), r4⟩
  · rw [c_M_laysFirsts, l_first7]
    refine Eq.trans c2 ?_
    rw [v_M_laysFirsts_28, cI_P h2, if_neg (nI_nlt (Nat.le_refl _) (by omega)), gI_sIj (by decide), L2.2.1, s_sizeOf _ (by omega), cI_s, pc_cn (by omega)]
    exact c4
  · cases hz : (Nat.beq t 96 && (Nat.beq j 42 || Nat.beq j 43))
    · rfl
    · simp only [Bool.and_eq_true, Bool.or_eq_true] at hz
      exfalso
      rw [Nat.eq_of_beq_eq_true hz.1] at hq
      rcases hz.2 with hz | hz
      · rw [Nat.eq_of_beq_eq_true hz] at hq; cases hq
      · rw [Nat.eq_of_beq_eq_true hz] at hq; cases hq
theorem m_firsts {σ : St} {R : RF} (h : H0 σ R) {K : KT} (hK : SM σ K) (a1 a2 : Int32) : RM 341 [vI a1, vI a2] σ (vI (cond (decide (wnB R K a1 a2 = 0)) (nI (bn (fB R K (cl a1) (cl a2)) (nP R))) (wnB R K a1 a2))) := by
  have hbb := h.b
  have h1 := thr_H h
  have hK1 := hK.f (thr_F σ)
  refine RM_of (by rw [c_M_firsts, s_whyNotBook h1 hK1, cI_s, ite_n]) (thr_F σ) (fun hq => ?_)
  obtain ⟨s, l, hs, hl, rfl, rfl, hw, hb⟩ := wn_e (by omega) (of_decide_eq_true hq)
  obtain ⟨σ2, c2, f2, r1, r2, r3⟩ := s_laysFirsts h1 hK1 hs hw hl hb
  exact ⟨σ2, by rw [c2, cV_s, r1, cl_n (by omega), cl_n (by omega)], f2⟩
theorem m_ask {σ : St} {R : RF} (h : H0 σ R) {K : KT} (hK : SM σ K) (a1 a2 : Int32) : RM 342 [vI a1, vI a2] σ (vI (cond (decide (wnB R K a1 a2 = 0)) (aq R K (cl a1) (cl a2) (yr R + 1)).1 (wnB R K a1 a2))) := by
  have hbb := h.b
  have h1 := thr_H h
  have hK1 := hK.f (thr_F σ)
  refine RM_of (by rw [c_M_ask, s_whyNotBook h1 hK1, cI_s, ite_n]) (thr_F σ) (fun hq => ?_)
  obtain ⟨s, l, hs, hl, rfl, rfl, hw, hb⟩ := wn_e (by omega) (of_decide_eq_true hq)
  obtain ⟨σ2, c2, f2, r1, r2, r3⟩ := s_laysFirsts h1 hK1 hs hw hl hb
  exact ⟨σ2, by rw [c2, cV_s, r2, cl_n (by omega), cl_n (by omega)], f2⟩
theorem m_leaves {σ : St} {R : RF} (h : H0 σ R) {K : KT} (hK : SM σ K) (a1 a2 : Int32) : RM 343 [vI a1, vI a2] σ (vI (cond (decide (wnB R K a1 a2 = 0)) (nI (aq R K (cl a1) (cl a2) (yr R + 1)).2) (wnB R K a1 a2))) := by
  have hbb := h.b
  have h1 := thr_H h
  have hK1 := hK.f (thr_F σ)
  refine RM_of (by rw [c_M_leaves, s_whyNotBook h1 hK1, cI_s, ite_n]) (thr_F σ) (fun hq => ?_)
  obtain ⟨s, l, hs, hl, rfl, rfl, hw, hb⟩ := wn_e (by omega) (of_decide_eq_true hq)
  obtain ⟨σ2, c2, f2, r1, r2, r3⟩ := s_laysFirsts h1 hK1 hs hw hl hb
  exact ⟨σ2, by rw [c2, cV_s, r3, cl_n (by omega), cl_n (by omega)], f2⟩
