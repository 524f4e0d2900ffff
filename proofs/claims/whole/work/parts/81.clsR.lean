/-! THE CLASS: the book: where he was at first -/
theorem k_startWith {σ : St} {R : RF} (h : K0 σ R) (i : Nat) {l p : Nat} (hl0 : l < nL R) (hp : p < nP R) : Cc 24 0 [vR 24 i, vI (nI l), vI (nI p)] σ = some (none, rwS σ (13 * i + 0) (nL R) (stw R l p)) := by
  have hbb := h.b
  have ht := vp_told h.1
  rw [c_Course_startWith, k_lp h hl0, cI_s]
  have hl := lpU (V := fun j => Vv 24 0 15 [some (vR 24 i), some (vI (nI l)), some (vI (nI p)), some (vI (nI (lp R l))), some (vI (nI j)), none] [] (pI σ 3289 (13 * i + 0) (fun k => if k < j then nI (stw R l p k) else gI σ 3289 (13 * i + 0) k))) (n := nL R) (fun j hj => by
    show Vv _ _ _ _ _ _ = Vv _ _ _ _ _ _
    have hK : K0 (pI σ 3289 (13 * i + 0) (fun k => if k < j then nI (stw R l p k) else gI σ 3289 (13 * i + 0) k)) R := h.ro (q := 13 * i + 0) (Fr.rf.pI (fun j => rowS_t _ j))
    have hfun : upd (fun k => if k < j then nI (stw R l p k) else gI σ 3289 (13 * i + 0) k) j (nI (stw R l p j)) = fun k => if k < j + 1 then nI (stw R l p k) else gI σ 3289 (13 * i + 0) k := by
      funext q
      unfold upd
      try dsimp only
      by_cases hq : q = j
      · rw [if_pos hq, if_pos (by omega), hq]
      · rw [if_neg hq]
        by_cases hq2 : q < j
        · rw [if_pos hq2, if_pos (by omega)]
        · rw [if_neg hq2, if_neg (by omega)]
    have hj1 := ht.1 j hj
    rw [v_Course_startWith_15, hK.prL.1, if_pos (nI_lt hj (by omega)), k_lp hK hj, cI_s, ix0 12, nI_1, ix_nI (by omega) (by omega), ix_nI (by omega) (by omega), ix_nI (by omega) (by omega), sI_pI, sI_pI, sI_pI]
    rw [← hfun]
    by_cases h1 : j = l
    · rw [if_pos (by rw [h1]), show stw R l p j = p by unfold stw; rw [if_pos h1]]
    · rw [if_neg (fun z => h1 ((nI_eq (by omega) (by omega)).mp z))]
      by_cases h2 : lp R j = p
      · rw [if_pos (by rw [h2]), show stw R l p j = lp R l by unfold stw; rw [if_neg h1, if_pos h2]]
      · rw [if_neg (fun z => h2 ((nI_eq (by omega) (by omega)).mp z)), show stw R l p j = lp R j by unfold stw; rw [if_neg h1, if_neg h2]])
  have e0 : pI σ 3289 (13 * i + 0) (fun k => if k < 0 then nI (stw R l p k) else gI σ 3289 (13 * i + 0) k) = σ := by
    have : (fun k => if k < 0 then nI (stw R l p k) else gI σ 3289 (13 * i + 0) k) = gI σ 3289 (13 * i + 0) := by
      funext q
      rw [if_neg (by omega)]
    rw [this, pI_id]
  have hl : Vv 24 0 15 [some (vR 24 i), some (vI (nI l)), some (vI (nI p)), some (vI (nI (lp R l))), some (vI (nI 0)), none] [] (pI σ 3289 (13 * i + 0) (fun k => if k < 0 then nI (stw R l p k) else gI σ 3289 (13 * i + 0) k)) = Vv 24 0 15 [some (vR 24 i), some (vI (nI l)), some (vI (nI p)), some (vI (nI (lp R l))), some (vI (nI (nL R))), none] [] (rwS σ (13 * i + 0) (nL R) (stw R l p)) := hl
  rw [e0] at hl
  refine Eq.trans hl ?_
  have hK : K0 (rwS σ (13 * i + 0) (nL R) (stw R l p)) R := h.ro rwS_F
  rw [v_Course_startWith_15, hK.prL.1, if_neg (nI_nlt (Nat.le_refl _) (by omega))]
theorem b_can {σ : St} {R : RF} {K : KT} (h : HVK σ R K) {s l p : Nat} (hs : s < 4) (hw : kw K s ≠ 4) (hl : l < nL R) (hb : bkB R K s = true) (hp : p < nP R) : ∃ σ3, Cc 15 0 [vR 8 0, vR 80 s, vI (nI l), vI (nI p)] σ = some (some (vI (tv (fB R K s l p))), σ3) ∧ Fr (crS 1) σ σ3 ∧ CV σ3 1 R (fal R) (PW R l p) := by
  have hbb := h.1.1.b
  have F1 : Fr (rowS (13 * 1 + 0)) σ (rwS σ (13 * 1 + 0) (nL R) (stw R l p)) := rwS_F
  have hv := vp_stw h.1.1.1 hl hp
  obtain ⟨σ2, c2, f2, r2⟩ := k_run (R := R) (i := 1) (fl := fal R) (law := lw R) (by omega) (mvd := -1) (mg := fun _ => true) (fun y hy => bit_m1 y (by omega)) hv (yr R) 0 _ (by omega) (h.1.1.ro F1) (SC.ro (i := 0) h.1.2.1 F1) (fun z hz => by omega) rwS_RW
  have F2 := (cr_up (by omega) (by omega) F1).tr f2
  have v2 : CV σ2 1 R (fal R) (PW R l p) := ⟨h.1.1.cr F2, SC.cr (i := 1) (j := 0) h.1.2.1 F2, r2, vp_ps h.1.1.1 hv _ _ _⟩
  refine ⟨σ2, ?_, F2, v2⟩
  have c3 : Cc 25 0 [vR 24 1, vI (nI (lw R)), vI (-1)] (rwS σ (13 * 1 + 0) (nL R) (stw R l p)) = some (none, σ2) := by
    rw [c_Course_run]
    exact c2
  rw [c_Book_canHaveBeen, k_startWith h.1.1 1 hl hp, cV_s, (h.1.1.ro F1).law, c3, cV_s, b_agrees v2 (HVK_f h (cr_sc (by omega) F2)).2 hs hw hl hb, cI_s, retZ_tv]
  rfl
theorem t_firsts {σ : St} {R : RF} (h : HV σ R) {K : KT} (hK : SK σ K) (a1 a2 : Int32) : RC 158 [vI a1, vI a2] σ (vI (cond (decide (wnB R K a1 a2 = 0)) (nI (bn (fB R K (cl a1) (cl a2)) (nP R))) (wnB R K a1 a2))) := by
  have hbb := h.1.b
  refine RC_of (by rw [c_H_firsts, b_refuse h.1 hK, cI_s, ite_n]) (fun hq => ?_)
  have hq := of_decide_eq_true hq
  obtain ⟨s, l, hs, hl, rfl, rfl, hw, hb⟩ := wn_e (by omega) hq
  rw [cl_n (by omega), cl_n (by omega)]
  obtain ⟨σ3, c3, f3⟩ := lpJC (fun σ σ' => HVK_f (R := R) (K := K)) (V := fun j σ => Vv 9 0 5 [some (vR 8 0), some (vR 80 s), some (vI (nI l)), some (vI (nI (bn (fB R K s l) j))), some (vI (nI j))] [] σ) (n := nP R) 0 (by omega) (fun j τ _ hj hτ => by
    obtain ⟨σ2, c2, f2, v2⟩ := b_can hτ hs hw hl hb hj
    refine ⟨σ2, ?_, cr_sc (by omega) f2⟩
    show Vv _ _ _ _ _ _ = Vv _ _ _ _ _ _
    rw [v_Book_firstPlaces_5, hτ.1.1.prP.1, if_pos (nI_lt hj (by omega)), c2, cI_s, tv_ite, nI_1]
    cases hz : fB R K s l j
    · rw [cond_false, bn_or0 (P := fB R K s l) hz]
    · rw [cond_true, bn_or1 (P := fB R K s l) (by omega) hz]) σ ⟨h, hK⟩
  have h3 := HV_sc h f3
  refine ⟨σ3, ?_, f3⟩
  have c4 : Cc 9 0 [vR 8 0, vR 80 s, vI (nI l)] σ = some (some (vI (nI (bn (fB R K s l) (nP R)))), σ3) := by
    rw [c_Book_firstPlaces]
    refine Eq.trans c3 ?_
    show Vv _ _ _ _ _ _ = _
    rw [v_Book_firstPlaces_5, h3.1.prP.1, if_neg (nI_nlt (Nat.le_refl _) (by omega))]
  rw [ix_nI (by omega) (by omega), c4, cI_s]
/-! tallies -/
def tyS (t _i _j : Nat) : Bool := Nat.beq t 3361
theorem ty_sc {σ σ' : St} (h : Fr tyS σ σ') : Fr scC σ σ' := h.up (fun t i j hq => by
  cases hz : tyS t i j
  · rfl
  · rw [Nat.eq_of_beq_eq_true hz] at hq
    cases hq)
theorem CV_ty {σ σ' : St} {i : Nat} {R : RF} {fl : Nat → Bool} {P : Nat → Nat → Nat} (v : CV σ i R fl P) (hf : Fr tyS σ σ') : CV σ' i R fl P := ⟨⟨v.1.1, v.1.2.fr hf (fun _ => ⟨rfl, fun _ _ => ⟨rfl, rfl, rfl⟩, rfl, rfl, rfl, rfl, rfl⟩)⟩, fun p hp => ⟨(hf.i rfl).trans (v.2.1 p hp).1, (hf.i rfl).trans (v.2.1 p hp).2⟩, fun z hz l hl => (hf.i rfl).trans (v.2.2.1 z hz l hl), v.2.2.2⟩
theorem b_tally {R : RF} {fl : Nat → Bool} {P : Nat → Nat → Nat} {l : Nat} (hl : l < nL R) : ∀ (k j : Nat) (σ : St), j + k = yr R + 1 → CV σ 1 R fl P → ∃ σ', Vv 12 0 2 [some (vR 8 0), some (vI (nI l)), some (vI (nI j)), none] [] σ = some (none, σ') ∧ Fr tyS σ σ' ∧ ∀ y q, gI σ' 3361 y q = if j ≤ y ∧ y ≤ yr R ∧ q = P y l then gI σ 3361 y q + 1 else gI σ 3361 y q
  | 0, j, σ, hj, v => by
    have hbb := v.1.b
    refine ⟨σ, ?_, Fr.rf, fun y q => ?_⟩
    · rw [v_Book_tallyCourse_2, v.1.years, if_neg (nI_ge (show yr R < j by omega) (by omega))]
    · rw [if_neg (by omega)]
  | k + 1, j, σ, hj, v => by
    have hbb := v.1.b
    have hpl := (v.2.2.2 j).1 l hl
    have hF : Fr tyS σ (sI σ 3361 j (P j l) (gI σ 3361 j (P j l) + 1)) := Fr.rf.sI rfl
    obtain ⟨σ', c1, f1, a1⟩ := b_tally hl k (j + 1) _ (by omega) (CV_ty v hF)
    refine ⟨σ', ?_, hF.tr f1, fun y q => ?_⟩
    · have e12 : nI j ≤ (12 : Int32) := nI_le (b := 12) (by omega) (by omega)
      rw [v_Book_tallyCourse_2, v.1.years, if_pos (nI_le (by omega) (by omega)), if_pos e12, k_spot v hl (by omega), cI_s, if_neg (nI_pos (by omega)), if_pos (lt6 (by omega)), ix_nI (by omega) (by omega), ix_nI (by omega) (by omega), ix_nI (by omega) (by omega), nI_1]
      exact c1
    · rw [a1 y q, gI_sI]
      by_cases hyj : y = j
      · subst hyj
        rw [if_neg (by omega)]
        by_cases hq : q = P y l
        · rw [if_pos ⟨rfl, rfl, hq⟩, if_pos ⟨Nat.le_refl _, by omega, hq⟩, hq]
        · rw [if_neg (fun z => hq z.2.2), if_neg (fun z => hq z.2.2)]
      · rw [if_neg (show ¬ (3361 = 3361 ∧ y = j ∧ q = P j l) from fun z => hyj z.2.1)]
        by_cases hc : j + 1 ≤ y ∧ y ≤ yr R ∧ q = P y l
        · rw [if_pos hc, if_pos ⟨by omega, hc.2⟩]
        · rw [if_neg hc, if_neg (fun z => hc ⟨by omega, z.2⟩)]
theorem b_z16 (s : Nat) (a2 : Int32) {y : Nat} (hy : y < 13) : ∀ (k q : Nat) (σ : St), q + k = 6 → ∃ σ', Vv 11 0 16 [some (vR 8 0), some (vR 80 s), some (vI a2), some (vI (nI y)), some (vI (nI q))] [] σ = Vv 11 0 7 [some (vR 8 0), some (vR 80 s), some (vI a2), some (vI (nI (y + 1))), none] [] σ' ∧ Fr tyS σ σ' ∧ ∀ y' q', gI σ' 3361 y' q' = if y' = y ∧ q ≤ q' ∧ q' < 6 then 0 else gI σ 3361 y' q'
  | 0, q, σ, hq => by
    refine ⟨σ, ?_, Fr.rf, fun y' q' => ?_⟩
    · have hq6 : q = 6 := by omega
      subst hq6
      rw [v_Book_tallyYears_16, if_neg (by decide), nI_1]
    · rw [if_neg (by omega)]
  | k + 1, q, σ, hq => by
    have hF : Fr tyS σ (sI σ 3361 y q 0) := Fr.rf.sI rfl
    obtain ⟨σ', c1, f1, a1⟩ := b_z16 s a2 hy k (q + 1) (sI σ 3361 y q 0) (by omega)
    refine ⟨σ', ?_, hF.tr f1, fun y' q' => ?_⟩
    · rw [v_Book_tallyYears_16, if_pos (lt6 (by omega)), ix_nI hy (by omega), ix_nI (by omega) (by omega), nI_1]
      exact c1
    · rw [a1, gI_sI]
      by_cases h1 : y' = y ∧ q' = q
      · rw [if_neg (by omega), if_pos ⟨rfl, h1⟩, if_pos (by omega)]
      · rw [if_neg (show ¬ (3361 = 3361 ∧ y' = y ∧ q' = q) from fun z => h1 z.2)]
        by_cases h2 : y' = y ∧ q + 1 ≤ q' ∧ q' < 6
        · rw [if_pos h2, if_pos (by omega)]
        · rw [if_neg h2, if_neg (by omega)]
theorem b_z7 (s : Nat) (a2 : Int32) : ∀ (k y : Nat) (σ : St), y + k = 13 → (∀ y' q', y' < y → q' < 6 → gI σ 3361 y' q' = 0) → ∃ σ', Vv 11 0 7 [some (vR 8 0), some (vR 80 s), some (vI a2), some (vI (nI y)), none] [] σ = Vv 11 0 47 [some (vR 8 0), some (vR 80 s), some (vI a2), some (vI 0), none] [] σ' ∧ Fr tyS σ σ' ∧ ∀ y' q', y' < 13 → q' < 6 → gI σ' 3361 y' q' = 0
  | 0, y, σ, hy, h => by
    have hy : y = 13 := by omega
    subst hy
    exact ⟨σ, by rw [v_Book_tallyYears_7, if_neg (by decide)], Fr.rf, h⟩
  | k + 1, y, σ, hy, h => by
    have e12 : nI y ≤ (12 : Int32) := nI_le (b := 12) (by omega) (by omega)
    obtain ⟨σ1, c1, f1, a1⟩ := b_z16 s a2 (show y < 13 by omega) 6 0 σ (by omega)
    obtain ⟨σ2, c2, f2, a2'⟩ := b_z7 s a2 k (y + 1) σ1 (by omega) (fun y' q' h1 h2 => by
      rw [a1]
      by_cases hc : y' = y ∧ 0 ≤ q' ∧ q' < 6
      · rw [if_pos hc]
      · rw [if_neg hc]
        exact h y' q' (by omega) h2)
    refine ⟨σ2, ?_, f1.tr f2, a2'⟩
    rw [v_Book_tallyYears_7, if_pos e12]
    exact c1.trans c2
/-- what stands behind the first n places -/
def TF (σ : St) (R : RF) (K : KT) (s l n : Nat) : Prop := HVK σ R K ∧ gI σ 8 0 3 = nI (cn (fB R K s l) n) ∧ ∀ y, y ≤ yr R → ∀ q, q < 6 → gI σ 3361 y q = nI (oft R K s l n y q)
theorem b_t47 {R : RF} {K : KT} {s l : Nat} (hs : s < 4) (hw : kw K s ≠ 4) (hl : l < nL R) (hb : bkB R K s = true) : ∀ (k p : Nat) (σ : St), p + k = nP R → TF σ R K s l p → ∃ σ', Vv 11 0 47 [some (vR 8 0), some (vR 80 s), some (vI (nI l)), some (vI (nI p)), none] [] σ = some (none, σ') ∧ Fr scC σ σ' ∧ TF σ' R K s l (nP R)
  | 0, p, σ, hp, h => by
    have hbb := h.1.1.1.b
    have hp : p = nP R := by omega
    subst hp
    exact ⟨σ, by rw [v_Book_tallyYears_47, h.1.1.1.prP.1, if_neg (nI_nlt (Nat.le_refl _) (by omega))], Fr.rf, h⟩
  | k + 1, p, σ, hp, h => by
    have hbb := h.1.1.1.b
    obtain ⟨σ2, c2, f2, v2⟩ := b_can h.1 hs hw hl hb (show p < nP R by omega)
    have g2 := cr_sc (by omega) f2
    have h2 := HVK_f h.1 g2
    have ec : cn (fB R K s l) (p + 1) = cn (fB R K s l) p + cond (fB R K s l p) 1 0 := rfl
    have eo : ∀ y q, oft R K s l (p + 1) y q = oft R K s l p y q + cond (fB R K s l p && decide (PW R l p y l = q)) 1 0 := fun _ _ => rfl
    cases hz : fB R K s l p
    · rw [hz] at c2
      obtain ⟨σ3, c3, f3, t3⟩ := b_t47 hs hw hl hb k (p + 1) σ2 (by omega) ⟨h2, by rw [ec, hz, f2.i rfl, h.2.1]; rfl, fun y hy q hq => by rw [eo, hz, f2.i rfl, h.2.2 y hy q hq]; rfl⟩
      refine ⟨σ3, ?_, g2.tr f3, t3⟩
      rw [v_Book_tallyYears_47, h.1.1.1.prP.1, if_pos (nI_lt (by omega) (by omega)), c2, cI_s, tv_ite, cond_false, nI_1]
      exact c3
    · rw [hz] at c2
      have hF : Fr (fun t _ _ => Nat.beq t 8) σ2 (sI σ2 8 0 3 (gI σ2 8 0 3 + 1)) := Fr.rf.sI rfl
      have hF' : Fr scC σ2 (sI σ2 8 0 3 (gI σ2 8 0 3 + 1)) := Fr.rf.sI rfl
      have vb : CV (sI σ2 8 0 3 (gI σ2 8 0 3 + 1)) 1 R (fal R) (PW R l p) := ⟨⟨v2.1.1, v2.1.2.fr hF (fun _ => ⟨rfl, fun _ _ => ⟨rfl, rfl, rfl⟩, rfl, rfl, rfl, rfl, rfl⟩)⟩, fun p hp => ⟨(hF.i rfl).trans (v2.2.1 p hp).1, (hF.i rfl).trans (v2.2.1 p hp).2⟩, fun z hz l hl => (hF.i rfl).trans (v2.2.2.1 z hz l hl), v2.2.2.2⟩
      obtain ⟨σ4, c4, f4, a4⟩ := b_tally hl (yr R + 1) 0 _ (by omega) vb
      have h4 := HVK_f (HVK_f h2 hF') (ty_sc f4)
      have e1 : gI σ4 8 0 3 = nI (cn (fB R K s l) (p + 1)) := by
        rw [ec, hz, f4.i rfl, gI_sIs, f2.i rfl, h.2.1]
        exact nI_1 _
      have e2 : ∀ y, y ≤ yr R → ∀ q, q < 6 → gI σ4 3361 y q = nI (oft R K s l (p + 1) y q) := fun y hy q hq => by
        rw [eo, hz, a4, hF.i rfl, f2.i rfl, h.2.2 y hy q hq, Bool.true_and]
        by_cases hc : PW R l p y l = q
        · rw [if_pos ⟨by omega, hy, hc.symm⟩, decide_eq_true hc]
          exact nI_1 _
        · rw [if_neg (fun z => hc z.2.2.symm), decide_eq_false hc]
          rfl
      obtain ⟨σ5, c5, f5, t5⟩ := b_t47 hs hw hl hb k (p + 1) σ4 (by omega) ⟨h4, e1, e2⟩
      refine ⟨σ5, ?_, ((g2.tr hF').tr (ty_sc f4)).tr f5, t5⟩
      have c4' : Cc 12 0 [vR 8 0, vI (nI l)] (sI σ2 8 0 3 (gI σ2 8 0 3 + 1)) = some (none, σ4) := by
        rw [c_Book_tallyCourse]
        exact c4
      rw [v_Book_tallyYears_47, h.1.1.1.prP.1, if_pos (nI_lt (by omega) (by omega)), c2, cI_s, tv_ite, cond_true, c4', cV_s, nI_1]
      exact c5
theorem b_tallyYears {σ : St} {R : RF} {K : KT} (h : HVK σ R K) {s l : Nat} (hs : s < 4) (hw : kw K s ≠ 4) (hl : l < nL R) (hb : bkB R K s = true) : ∃ σ', Cc 11 0 [vR 8 0, vR 80 s, vI (nI l)] σ = some (none, σ') ∧ Fr scC σ σ' ∧ TF σ' R K s l (nP R) := by
  have hbb := h.1.1.b
  have hF' : Fr scC σ (sI σ 8 0 3 0) := Fr.rf.sI rfl
  obtain ⟨σ1, c1, f1, z1⟩ := b_z7 s (nI l) 13 0 (sI σ 8 0 3 0) (by omega) (fun y' q' h1 _ => by omega)
  obtain ⟨σ2, c2, f2, t2⟩ := b_t47 hs hw hl hb (nP R) 0 σ1 (by omega) ⟨HVK_f h (hF'.tr (ty_sc f1)), (f1.i rfl).trans (gI_sIs _ _ _ _ _), fun y hy q hq => z1 y q (by omega) hq⟩
  refine ⟨σ2, ?_, (hF'.tr (ty_sc f1)).tr f2, t2⟩
  rw [c_Book_tallyYears]
  exact c1.trans c2
theorem mxN_z {f : Nat → Nat} {n : Nat} : ∀ d, (∀ k, n ≤ k → k < n + d → f k = 0) → mxN f (n + d) = mxN f n
  | 0, _ => rfl
  | d + 1, h => by
    show max (mxN f (n + d)) (f (n + d)) = mxN f n
    rw [h (n + d) (by omega) (by omega), mxN_z d (fun k h1 h2 => h k h1 (by omega))]
    omega
theorem cn_0 {P : Nat → Bool} : ∀ {n : Nat}, (∀ k, k < n → P k = false) → cn P n = 0
  | 0, _ => rfl
  | n + 1, h => by
    show cn P n + cond (P n) 1 0 = 0
    rw [h n (by omega), cn_0 (fun k hk => h k (by omega))]
    rfl
theorem oft_0 {R : RF} (h : WF R) {K : KT} {s l y q : Nat} (hl : l < nL R) (hq : nP R ≤ q) : oft R K s l (nP R) y q = 0 := cn_0 (fun p hp => by
  have := (vp_ps h (vp_stw h hl hp) (see R (fal R)) (lw R) (fun _ => true) y).1 l hl
  have hne : ¬ PW R l p y l = q := fun z => by
    unfold PW at z
    omega
  rw [decide_eq_false hne, Bool.and_false])
theorem b_worst {σ : St} {R : RF} {K : KT} {s l : Nat} (h : TF σ R K s l (nP R)) (hl : l < nL R) {y : Nat} (hy : y ≤ yr R) : Cc 14 0 [vR 8 0, vI (nI y)] σ = some (some (vI (nI (wor R K s l y))), σ) := by
  have hbb := h.1.1.1.b
  have e12 : nI y ≤ (12 : Int32) := nI_le (b := 12) (by omega) (by omega)
  have ew : wor R K s l y = mxN (oft R K s l (nP R) y) 6 := by
    have e := mxN_z (f := oft R K s l (nP R) y) (n := nP R) (6 - nP R) (fun k h1 _ => oft_0 h.1.1.1.1 hl h1)
    rw [show nP R + (6 - nP R) = 6 by omega] at e
    exact e.symm
  rw [c_Book_worstIn, ew]
  refine (lpU (V := fun q => Vv 14 0 4 [some (vR 8 0), some (vI (nI y)), some (vI (nI (mxN (oft R K s l (nP R) y) q))), some (vI (nI q))] [] σ) (n := 6) (fun q hq => ?_)).trans ?_
  · show Vv _ _ _ _ _ _ = Vv _ _ _ _ _ _
    have o1 := oft_le R K s l (nP R) y q
    have o2 := mxN_le (f := oft R K s l (nP R) y) (c := nP R) (n := q) (fun k _ => oft_le _ _ _ _ _ _ _)
    rw [v_Book_worstIn_4, if_pos (lt6 hq), if_neg (nI_pos (by omega)), if_pos e12, ix_nI (by omega) (by omega), ix_nI (by omega) (by omega), h.2.2 y hy q hq, nI_1]
    have em : (if nI (mxN (oft R K s l (nP R) y) q) < nI (oft R K s l (nP R) y q) then nI (oft R K s l (nP R) y q) else nI (mxN (oft R K s l (nP R) y) q)) = nI (mxN (oft R K s l (nP R) y) (q + 1)) := by
      show _ = nI (max (mxN (oft R K s l (nP R) y) q) (oft R K s l (nP R) y q))
      by_cases hc : mxN (oft R K s l (nP R) y) q < oft R K s l (nP R) y q
      · rw [if_pos (nI_lt hc (by omega)), Nat.max_eq_right (by omega)]
      · rw [if_neg (nI_nlt (by omega) (by omega)), Nat.max_eq_left (by omega)]
    rw [em]
  · show Vv _ _ _ _ _ _ = _
    rw [v_Book_worstIn_4, if_neg (by decide)]
theorem b_yearToAsk {σ : St} {R : RF} {K : KT} {s l : Nat} (h : TF σ R K s l (nP R)) (hl : l < nL R) : Cc 13 0 [vR 8 0] σ = some (some (vI (aq R K s l (yr R + 1)).1), σ) := by
  have hbb := h.1.1.1.b
  rw [c_Book_yearToAsk, h.2.1]
  refine (lpU (V := fun y => Vv 13 0 9 [some (vR 8 0), some (vI (aq R K s l y).1), some (vI (nI (aq R K s l y).2)), some (vI (nI y))] [] σ) (n := yr R + 1) (fun y hy => ?_)).trans ?_
  · show Vv _ _ _ _ _ _ = Vv _ _ _ _ _ _
    have o1 := wor_le R K s l y
    have o2 := aq_le R K s l y
    have ea : aq R K s l (y + 1) = cond (decide (wor R K s l y < (aq R K s l y).2)) (nI y, wor R K s l y) (aq R K s l y) := rfl
    rw [v_Book_yearToAsk_9, h.1.1.1.years, if_pos (nI_le (by omega) (by omega)), b_worst h hl (by omega), cI_s, b_worst h hl (by omega), cI_s, nI_1, ea]
    by_cases hc : wor R K s l y < (aq R K s l y).2
    · rw [if_pos (nI_lt hc (by omega)), decide_eq_true hc]
      rfl
    · rw [if_neg (nI_nlt (by omega) (by omega)), decide_eq_false hc]
      rfl
  · show Vv _ _ _ _ _ _ = _
    rw [v_Book_yearToAsk_9, h.1.1.1.years, if_neg (nI_ge (show yr R < yr R + 1 by omega) (by omega))]
theorem aq_c (R : RF) (K : KT) (s l : Nat) : ∀ y, ((aq R K s l y).1 = -1 ∧ (aq R K s l y).2 = cn (fB R K s l) (nP R)) ∨ ∃ z, z < y ∧ (aq R K s l y).1 = nI z ∧ (aq R K s l y).2 = wor R K s l z
  | 0 => Or.inl ⟨rfl, rfl⟩
  | y + 1 => by
    have ea : aq R K s l (y + 1) = cond (decide (wor R K s l y < (aq R K s l y).2)) (nI y, wor R K s l y) (aq R K s l y) := rfl
    rw [ea]
    cases decide (wor R K s l y < (aq R K s l y).2)
    · rcases aq_c R K s l y with h | ⟨z, h1, h2⟩
      · exact Or.inl h
      · exact Or.inr ⟨z, by omega, h2⟩
    · exact Or.inr ⟨y, by omega, rfl, rfl⟩
theorem t_ask {σ : St} {R : RF} (h : HV σ R) {K : KT} (hK : SK σ K) (a1 a2 : Int32) : RC 159 [vI a1, vI a2] σ (vI (cond (decide (wnB R K a1 a2 = 0)) (aq R K (cl a1) (cl a2) (yr R + 1)).1 (wnB R K a1 a2))) := by
  have hbb := h.1.b
  refine RC_of (by rw [c_H_ask, b_refuse h.1 hK, cI_s, ite_n]) (fun hq => ?_)
  have hq := of_decide_eq_true hq
  obtain ⟨s, l, hs, hl, rfl, rfl, hw, hb⟩ := wn_e (by omega) hq
  rw [cl_n (by omega), cl_n (by omega)]
  obtain ⟨σ3, c3, f3, t3⟩ := b_tallyYears (K := K) ⟨h, hK⟩ hs hw hl hb
  exact ⟨σ3, by rw [ix_nI (by omega) (by omega), c3, cV_s, b_yearToAsk t3 hl, cI_s], f3⟩
theorem t_leaves {σ : St} {R : RF} (h : HV σ R) {K : KT} (hK : SK σ K) (a1 a2 : Int32) : RC 160 [vI a1, vI a2] σ (vI (cond (decide (wnB R K a1 a2 = 0)) (nI (aq R K (cl a1) (cl a2) (yr R + 1)).2) (wnB R K a1 a2))) := by
  have hbb := h.1.b
  refine RC_of (by rw [c_H_leaves, b_refuse h.1 hK, cI_s, ite_n]) (fun hq => ?_)
  have hq := of_decide_eq_true hq
  obtain ⟨s, l, hs, hl, rfl, rfl, hw, hb⟩ := wn_e (by omega) hq
  rw [cl_n (by omega), cl_n (by omega)]
  obtain ⟨σ3, c3, f3, t3⟩ := b_tallyYears (K := K) ⟨h, hK⟩ hs hw hl hb
  refine ⟨σ3, ?_, f3⟩
  rw [ix_nI (by omega) (by omega), c3, cV_s, b_yearToAsk t3 hl, cI_s]
  rcases aq_c R K s l (yr R + 1) with ⟨e1, e2⟩ | ⟨z, hz, e1, e2⟩
  · rw [e1, e2, if_pos rfl, t3.2.1]
  · rw [e1, e2, if_neg (nI_nm (by omega)), b_worst t3 hl (by omega), cI_s]
