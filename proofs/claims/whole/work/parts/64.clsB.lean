/-! THE CLASS: sight -/
theorem k_isBetween {σ : St} {R : RF} (h : K0 σ R) (i : Nat) {f p m : Nat} (hf : f < nF R) (hp : p < nP R) (hm : m < nM R) : Cc 99 0 [vR 72 i, vI (nI f), vI (nI p), vI (nI m)] σ = some (some (vI (tv (btw R f p m))), σ) := by
  have h1 := h.1.2.2.1 p hp
  have h2 := h.1.2.2.2.1 m hm
  have h3 := h.1.2.2.2.2.1 f hf
  have n1 := h3.2.2.1 p hp
  have n2 := h3.2.2.2 m hm
  have e1 : (nI (px R p) - nI (fx R f)).toInt = (px R p : Int) - fx R f := pk_sub_toInt (by omega) (by omega)
  have e2 : (nI (py R p) - nI (fy R f)).toInt = (py R p : Int) - fy R f := pk_sub_toInt (by omega) (by omega)
  have e3 : (nI (mx R m) - nI (fx R f)).toInt = (mx R m : Int) - fx R f := pk_sub_toInt (by omega) (by omega)
  have e4 : (nI (my R m) - nI (fy R f)).toInt = (my R m : Int) - fy R f := pk_sub_toInt (by omega) (by omega)
  have e5 : ((nI (px R p) - nI (fx R f)) * (nI (my R m) - nI (fy R f))).toInt = ((px R p : Int) - fx R f) * ((my R m : Int) - fy R f) := by
    rw [i_mul32 (A := 30) (B := 30) (by omega) (by omega) (by omega), e1, e4]
  have e6 : ((nI (py R p) - nI (fy R f)) * (nI (mx R m) - nI (fx R f))).toInt = ((py R p : Int) - fy R f) * ((mx R m : Int) - fx R f) := by
    rw [i_mul32 (A := 30) (B := 30) (by omega) (by omega) (by omega), e2, e3]
  have e7 : ((nI (px R p) - nI (fx R f)) * (nI (mx R m) - nI (fx R f))).toInt = ((px R p : Int) - fx R f) * ((mx R m : Int) - fx R f) := by
    rw [i_mul32 (A := 30) (B := 30) (by omega) (by omega) (by omega), e1, e3]
  have e8 : ((nI (py R p) - nI (fy R f)) * (nI (my R m) - nI (fy R f))).toInt = ((py R p : Int) - fy R f) * ((my R m : Int) - fy R f) := by
    rw [i_mul32 (A := 30) (B := 30) (by omega) (by omega) (by omega), e2, e4]
  have b7 := i_mul (a := (px R p : Int) - fx R f) (b := (mx R m : Int) - fx R f) (A := 30) (B := 30) (by omega) (by omega)
  have b8 := i_mul (a := (py R p : Int) - fy R f) (b := (my R m : Int) - fy R f) (A := 30) (B := 30) (by omega) (by omega)
  have e9 : ((nI (px R p) - nI (fx R f)) * (nI (mx R m) - nI (fx R f)) + (nI (py R p) - nI (fy R f)) * (nI (my R m) - nI (fy R f))).toInt = ((px R p : Int) - fx R f) * ((mx R m : Int) - fx R f) + ((py R p : Int) - fy R f) * ((my R m : Int) - fy R f) := by
    rw [Int32.toInt_add, e7, e8]
    exact Int.bmod_eq_of_le (by omega) (by omega)
  rw [c_Sight_isBetween, k_px h hp, cI_s, k_fx h hf, cI_s, k_py h hp, cI_s, k_fy h hf, cI_s, v_Sight_isBetween_50, k_mx h hm, cI_s, k_fx h hf, cI_s, k_my h hm, cI_s, k_fy h hf, cI_s, v_Sight_isBetween_100, v_Sight_isBetween_120, v_Sight_isBetween_120, if_neg (show ¬ (1 : Int32) = 0 by decide), if_pos (show (0 : Int32) = 0 from rfl), retZ_0, retZ_1]
  simp only [i_eq (a := (nI (px R p) - nI (fx R f)) * (nI (my R m) - nI (fy R f))), lt0, e5, e6, e9]
  unfold btw
  rw [bt_eq (by omega) (by omega)]
  rw [show -((fx R f : Int) - px R p) = (px R p : Int) - fx R f by omega, show -((fy R f : Int) - py R p) = (py R p : Int) - fy R f by omega, show (mx R m : Int) - px R p - ((fx R f : Int) - px R p) = (mx R m : Int) - fx R f by omega, show (my R m : Int) - py R p - ((fy R f : Int) - py R p) = (my R m : Int) - fy R f by omega, ite_n, ite_n]
  exact tv_and _ _ σ
theorem k_isFallen {σ : St} {R : RF} (h : K0 σ R) {f : Nat} (hf : f < 2 ^ 31) : Cc 73 0 [vR 48 0, vI (nI f)] σ = some (some (vI (tv (fal R f))), σ) := by
  have hbb := h.b
  have key : Cc 4 0 [vR 0 0, vI (nI f)] σ = some (some (vI (tv (fal R f))), σ) := by
    rw [c_Acts_isFallen]
    refine lpZ (V := fun j => Vv 4 0 2 [some (vR 0 0), some (vI (nI f)), some (vI (nI j))] [] σ) (nA R) (fun j hj => ?_) ?_
    · show Vv _ _ _ _ _ _ = _
      have ha := h.ac hj
      have hw := h.1.2.2.2.2.2.2.2.2 j hj
      rw [v_Acts_isFallen_2, h.A, if_pos (nI_lt hj (by omega)), ix_nI (by omega) (by omega), ix_nI (by omega) (by omega), ha.1, retZ_1, nI_1]
      by_cases hk : ak R j = 1
      · have := hw.1 hk
        rw [ha.2.1 hk, if_pos rfl, decide_eq_true hk, Bool.true_and, ite_n]
        simp only [nI_eq (show aa R j < 2 ^ 31 by omega) hf]
      · have := hw.2 hk
        rw [(ha.2.2 hk).2, if_neg (nn1 (by omega)), decide_eq_false hk, Bool.false_and]
        rfl
    · show Vv _ _ _ _ _ _ = _
      rw [v_Acts_isFallen_2, h.A, if_neg (nI_nlt (Nat.le_refl _) (by omega)), retZ_0]
  rw [c_Roof_isFallen, key, cI_s, retZ_tv]
/-- a flue more thought away -/
def flW (R : RF) (w : Int32) : Nat → Bool := fun f => fal R f || decide (nI f = w)
theorem k_hider {σ : St} {R : RF} (h : K0 σ R) (i : Nat) (w : Int32) {p m : Nat} (hp : p < nP R) (hm : m < nM R) : Cc 98 0 [vR 72 i, vI (nI p), vI (nI m), vI w] σ = some (some (vI (fI (hb R (flW R w) p m) (nF R))), σ) := by
  have hbb := h.b
  rw [c_Sight_hider]
  refine lpI (V := fun j => Vv 98 0 3 [some (vR 72 i), some (vI (nI p)), some (vI (nI m)), some (vI w), some (vI (nI j))] [] σ) (nF R) (fun j hj => ?_) ?_
  · show Vv _ _ _ _ _ _ = _
    rw [v_Sight_hider_3, h.prF.1, if_pos (nI_lt hj (by omega)), k_isFallen h (by omega), cI_s, tv_ite, k_isBetween h i hj hp hm, cI_s, tv_ite, nI_1, ite_n]
    unfold hb flW
    cases decide (nI j = w) <;> cases fal R j <;> cases btw R j p m <;> rfl
  · show Vv _ _ _ _ _ _ = _
    rw [v_Sight_hider_3, h.prF.1, if_neg (nI_nlt (Nat.le_refl _) (by omega))]
theorem k_worthOfSet {σ : St} {R : RF} (h : K0 σ R) (P : Nat → Bool) : Cc 76 0 [vR 48 0, vI (nI (bn P (nM R)))] σ = some (some (vI (nI (wth R P))), σ) := by
  have hbb := h.b
  rw [c_Roof_worthOfSet]
  refine (lpS (V := fun x j => Vv 76 0 4 [some (vR 48 0), some (vI (nI (bn P (nM R)))), some (vI x), some (vI (nI j))] [] σ) (f := fun m => cond (P m) (mw R m) 0) (n := nM R) (fun j x hj => ?_)).trans ?_
  · show Vv _ _ _ _ _ _ = Vv _ _ _ _ _ _
    rw [v_Roof_worthOfSet_4, show (5 * 0 + 1) = 1 from rfl, h.prM.1, if_pos (nI_lt hj (by omega)), bit_ne, bit_in (by omega) hj, ix_nI (by omega) (by omega), h.mw hj, nI_1]
    cases P j
    · show Vv _ _ _ _ _ _ = Vv _ _ _ [_, _, some (vI (x + nI 0)), _] _ _
      rw [q_0, Int32.add_zero]
    · rfl
  · show Vv _ _ _ _ _ _ = _
    rw [v_Roof_worthOfSet_4, show (5 * 0 + 1) = 1 from rfl, h.prM.1, if_neg (nI_nlt (Nat.le_refl _) (by omega))]
    rfl
/-- what the class's sight i has -/
def SC (σ : St) (i : Nat) (R : RF) (fl : Nat → Bool) : Prop := ∀ p, p < nP R → gI σ 3265 i p = nI (bn (see R fl p) (nM R)) ∧ gI σ 3273 i p = nI (wth R (see R fl p))
def siS (i : Nat) (t i' _j : Nat) : Bool := (Nat.beq t 3265 || Nat.beq t 3273) && Nat.beq i' i
theorem K0.fr {S : Nat → Nat → Nat → Bool} {σ σ' : St} {R : RF} (h : K0 σ R) (hf : Fr S σ σ') (hs : ∀ j, S 48 0 j = false ∧ (∀ q, q < 5 → S 32 (5 * 0 + q) j = false ∧ S 105 (5 * 0 + q) j = false ∧ S 113 (5 * 0 + q) j = false) ∧ S 3705 0 j = false ∧ S 0 0 j = false ∧ S 15489 0 j = false ∧ S 15497 0 j = false ∧ S 15505 0 j = false) : K0 σ' R := ⟨h.1, h.2.fr hf hs⟩
theorem K0.si {σ σ' : St} {R : RF} {i : Nat} (h : K0 σ R) (hf : Fr (siS i) σ σ') : K0 σ' R := h.fr hf (fun _ => ⟨rfl, fun _ _ => ⟨rfl, rfl, rfl⟩, rfl, rfl, rfl, rfl, rfl⟩)
/-- one place is looked from -/
theorem l_look13 {σ : St} {R : RF} (h : K0 σ R) {i : Nat} (w : Int32) {p : Nat} (hp : p < 6) : ∃ σ', Vv 97 0 13 [some (vR 72 i), some (vI w), some (vI (nI p)), some (vI 0), some (vI 0)] [] σ = Vv 97 0 2 [some (vR 72 i), some (vI w), some (vI (nI (p + 1))), none, none] [] σ' ∧ Fr (siS i) σ σ' ∧ (∀ q, q ≠ p → gI σ' 3265 i q = gI σ 3265 i q ∧ gI σ' 3273 i q = gI σ 3273 i q) ∧ (p < nP R → gI σ' 3265 i p = nI (bn (see R (flW R w) p) (nM R)) ∧ gI σ' 3273 i p = nI (wth R (see R (flW R w) p))) := by
  have hbb := h.b
  have e6 : ∀ x : Nat, ix (nI p) 6 = ix (nI p) 6 := fun _ => rfl
  have hfin : ∀ (Q : Nat → Bool), ∃ σ', cI (Cc 76 0 [vR 48 0, vI (nI (bn Q (nM R)))] (sI σ 3265 i p (nI (bn Q (nM R))))) (fun x5 σ4 => ix (nI p) 6 (fun k6 => Vv 97 0 2 [some (vR 72 i), some (vI w), some (vI (nI p + 1)), none, none] [] (sI σ4 3273 i k6 x5))) = Vv 97 0 2 [some (vR 72 i), some (vI w), some (vI (nI (p + 1))), none, none] [] σ' ∧ Fr (siS i) σ σ' ∧ (∀ q, q ≠ p → gI σ' 3265 i q = gI σ 3265 i q ∧ gI σ' 3273 i q = gI σ 3273 i q) ∧ gI σ' 3265 i p = nI (bn Q (nM R)) ∧ gI σ' 3273 i p = nI (wth R Q) := fun Q => by
    have hF1 : Fr (siS i) σ (sI σ 3265 i p (nI (bn Q (nM R)))) := Fr.rf.sI (by unfold siS; simp)
    have h1 := h.si hF1
    rw [k_worthOfSet h1, cI_s, ix_nI hp (by omega), nI_1]
    refine ⟨_, rfl, hF1.sI (by unfold siS; simp), fun q hq => ⟨?_, ?_⟩, ?_, gI_sIs _ _ _ _ _⟩
    · rw [gI_sIn (by decide), gI_sIj hq]
    · rw [gI_sIj hq, gI_sIn (by decide)]
    · rw [gI_sIn (by decide), gI_sIs]
  by_cases hpP : p < nP R
  · have hl := lpB (V := fun x j => Vv 97 0 13 [some (vR 72 i), some (vI w), some (vI (nI p)), some (vI x), some (vI (nI j))] [] σ) (P := see R (flW R w) p) (n := nM R) (by omega) (fun j x hj => by
      show Vv _ _ _ _ _ _ = cond _ (Vv _ _ _ _ _ _) (Vv _ _ _ _ _ _)
      rw [v_Sight_look_13, h.prM.1, if_pos (nI_lt hj (by omega)), k_has h.prP (by omega), cI_s, inB_n hpP (by omega), tv_ite, cond_true, k_hider h i w hpP hj, cI_s, nI_1, ite_n]
      simp only [fI_no (show nF R < 2 ^ 31 by omega)]
      unfold see
      cases ex (hb R (flW R w) p j) (nF R) <;> rfl)
    obtain ⟨σ', c1, c2, c3, c4⟩ := hfin (see R (flW R w) p)
    refine ⟨σ', ?_, c2, c3, fun _ => c4⟩
    refine Eq.trans hl ?_
    show Vv _ _ _ _ _ _ = _
    rw [v_Sight_look_13, h.prM.1, if_neg (nI_nlt (Nat.le_refl _) (by omega)), ix_nI hp (by omega)]
    exact c1
  · obtain ⟨σ', c1, c2, c3, c4⟩ := hfin (fun _ => false)
    have hz : (0 : Int32) = nI (bn (fun _ => false) (nM R)) := by rw [bn_0.mpr (fun _ _ => rfl)]; rfl
    refine ⟨σ', ?_, c2, c3, fun z => absurd z hpP⟩
    have hno : inB (nI p) (nP R) = false := by
      cases hz : inB (nI p) (nP R)
      · rfl
      · obtain ⟨k, hk, e⟩ := inB_e (by omega) hz
        have := (nI_eq (by omega) (by omega)).mp e
        omega
    rw [v_Sight_look_13, k_has h.prP (by omega), cI_s, hno, tv_ite, cond_false, ix_nI hp (by omega)]
    rw [← hz] at c1
    rw [c1]
    split <;> rfl
theorem k_look {σ : St} {R : RF} (h : K0 σ R) (i : Nat) (w : Int32) : ∃ σ', Cc 97 0 [vR 72 i, vI w] σ = some (none, σ') ∧ Fr (siS i) σ σ' ∧ SC σ' i R (flW R w) := by
  have hbb := h.b
  rw [c_Sight_look]
  have key : ∀ k p (τ : St), p + k = 6 → K0 τ R → (∀ q, q < p → q < nP R → gI τ 3265 i q = nI (bn (see R (flW R w) q) (nM R)) ∧ gI τ 3273 i q = nI (wth R (see R (flW R w) q))) → ∃ σ', Vv 97 0 2 [some (vR 72 i), some (vI w), some (vI (nI p)), none, none] [] τ = some (none, σ') ∧ Fr (siS i) τ σ' ∧ SC σ' i R (flW R w) := by
    intro k
    induction k with
    | zero =>
      intro p τ hp hτ hq
      have hp : p = 6 := by omega
      subst hp
      have e6 : ¬ nI 6 < (6 : Int32) := by decide
      refine ⟨τ, by rw [v_Sight_look_2, if_neg e6], Fr.rf, fun q hqP => hq q (by omega) hqP⟩
    | succ k ih =>
      intro p τ hp hτ hq
      have e6 : nI p < (6 : Int32) := nI_lt (b := 6) (by omega) (by omega)
      obtain ⟨σ1, c1, f1, g1, g2⟩ := l_look13 hτ (i := i) w (p := p) (by omega)
      obtain ⟨σ2, c2, f2, s2⟩ := ih (p + 1) σ1 (by omega) (hτ.si f1) (fun q hq1 hqP => by
        by_cases hqp : q = p
        · subst hqp
          exact g2 hqP
        · rw [(g1 q hqp).1, (g1 q hqp).2]
          exact hq q (by omega) hqP)
      exact ⟨σ2, by rw [v_Sight_look_2, if_pos e6, c1, c2], f1.tr f2, s2⟩
  exact key 6 0 σ (by omega) h (fun q hq => by omega)
theorem lt6 {p : Nat} (hp : p < 6) : nI p < (6 : Int32) := nI_lt (b := 6) hp (by omega)
theorem k_marksFrom {σ : St} {R : RF} {i : Nat} {fl : Nat → Bool} (h : K0 σ R) (hs : SC σ i R fl) {p : Nat} (hp : p < nP R) : Cc 100 0 [vR 72 i, vI (nI p)] σ = some (some (vI (nI (bn (see R fl p) (nM R)))), σ) := by
  have hbb := h.b
  rw [c_Sight_marksFrom, if_neg (nI_pos (by omega)), if_pos (lt6 (by omega)), ix_nI (by omega) (by omega), (hs p hp).1]
theorem k_worthFrom {σ : St} {R : RF} {i : Nat} {fl : Nat → Bool} (h : K0 σ R) (hs : SC σ i R fl) {p : Nat} (hp : p < nP R) : Cc 101 0 [vR 72 i, vI (nI p)] σ = some (some (vI (nI (wth R (see R fl p)))), σ) := by
  have hbb := h.b
  rw [c_Sight_worthFrom, if_neg (nI_pos (by omega)), if_pos (lt6 (by omega)), ix_nI (by omega) (by omega), (hs p hp).2]
theorem k_isSeen {σ : St} {R : RF} {i : Nat} {fl : Nat → Bool} (h : K0 σ R) (hs : SC σ i R fl) {p m : Nat} (hp : p < nP R) (hm : m < nM R) : Cc 102 0 [vR 72 i, vI (nI p), vI (nI m)] σ = some (some (vI (tv (see R fl p m))), σ) := by
  have hbb := h.b
  rw [c_Sight_isSeen, if_neg (nI_pos (by omega)), if_pos (lt6 (by omega)), ix_nI (by omega) (by omega), (hs p hp).1, bit_ne, bit_in (by omega) hm, retZ_0, retZ_1]
  cases see R fl p m <;> rfl
theorem k_placesOf {σ : St} {R : RF} {i : Nat} {fl : Nat → Bool} (h : K0 σ R) (hs : SC σ i R fl) {m : Nat} (hm : m < nM R) : Cc 103 0 [vR 72 i, vI (nI m)] σ = some (some (vI (nI (bn (fun p => see R fl p m) (nP R)))), σ) := by
  have hbb := h.b
  rw [c_Sight_placesOf]
  refine (lpB (V := fun x j => Vv 103 0 4 [some (vR 72 i), some (vI (nI m)), some (vI x), some (vI (nI j))] [] σ) (P := fun p => see R fl p m) (n := nP R) (by omega) (fun j x hj => ?_)).trans ?_
  · show Vv _ _ _ _ _ _ = cond _ (Vv _ _ _ _ _ _) (Vv _ _ _ _ _ _)
    rw [v_Sight_placesOf_4, h.prP.1, if_pos (nI_lt hj (by omega)), k_isSeen h hs hj hm, cI_s, tv_ite, nI_1]
  · show Vv _ _ _ _ _ _ = _
    rw [v_Sight_placesOf_4, h.prP.1, if_neg (nI_nlt (Nat.le_refl _) (by omega))]
theorem k_marksFromSet {σ : St} {R : RF} {i : Nat} {fl : Nat → Bool} (h : K0 σ R) (hs : SC σ i R fl) {x : Nat} (hx : x < 2 ^ 31) : Cc 104 0 [vR 72 i, vI (nI x)] σ = some (some (vI (nI (bn (aS R (see R fl) (Nat.testBit x)) (nM R)))), σ) := by
  have hbb := h.b
  rw [c_Sight_marksFromSet]
  have hl := lpU (V := fun j => Vv 104 0 4 [some (vR 72 i), some (vI (nI x)), some (vI (nI (bn (fun m => ex (fun p => Nat.testBit x p && see R fl p m) j) (nM R)))), some (vI (nI j))] [] σ) (n := nP R) (fun j hj => by
    show Vv _ _ _ _ _ _ = Vv _ _ _ _ _ _
    rw [v_Sight_marksFromSet_4, h.prP.1, if_pos (nI_lt hj (by omega)), bit_ne, bit_n hx (by omega), ix_nI (by omega) (by omega), (hs j hj).1, nI_or, bn_or, nI_1]
    cases hq : Nat.testBit x j
    · rw [cond_false]
      refine congrArg (fun z => Vv 104 0 4 [some (vR 72 i), some (vI (nI x)), some (vI (nI z)), some (vI (nI (j + 1)))] [] σ) (bn_congr (fun m _ => ?_))
      rw [ex_succ, hq, Bool.false_and, Bool.or_false]
    · rw [cond_true]
      refine congrArg (fun z => Vv 104 0 4 [some (vR 72 i), some (vI (nI x)), some (vI (nI z)), some (vI (nI (j + 1)))] [] σ) (bn_congr (fun m _ => ?_))
      rw [ex_succ, hq, Bool.true_and])
  have e0 : bn (fun m => ex (fun p => Nat.testBit x p && see R fl p m) 0) (nM R) = 0 := bn_0.mpr (fun _ _ => rfl)
  have hl : Vv 104 0 4 [some (vR 72 i), some (vI (nI x)), some (vI (nI (bn (fun m => ex (fun p => Nat.testBit x p && see R fl p m) 0) (nM R)))), some (vI (nI 0))] [] σ = Vv 104 0 4 [some (vR 72 i), some (vI (nI x)), some (vI (nI (bn (aS R (see R fl) (Nat.testBit x)) (nM R)))), some (vI (nI (nP R)))] [] σ := hl
  rw [e0] at hl
  refine Eq.trans hl ?_
  rw [v_Sight_marksFromSet_4, h.prP.1, if_neg (nI_nlt (Nat.le_refl _) (by omega))]
/-- the next place of some -/
theorem k_nextIn {σ : St} {R : RF} (h : K0 σ R) {p : Nat} (hp : p < nP R) (S : Nat → Bool) : Cc 78 0 [vR 48 0, vI (nI (bn S (nP R))), vI (nI p)] σ = some (some (vI (nI (nx S (nP R) p))), σ) := by
  have hbb := h.b
  rw [c_Roof_nextIn]
  have hstep : ∀ k, (if (p + k) % nP R + 1 < nP R then (p + k) % nP R + 1 else 0) = (p + (k + 1)) % nP R := fun k => by
    have h1 : (p + k) % nP R < nP R := Nat.mod_lt _ (by omega)
    have h2 : (p + (k + 1)) % nP R = ((p + k) % nP R + 1) % nP R := by rw [← Nat.add_assoc, Nat.mod_add_mod]
    rw [h2]
    by_cases hz : (p + k) % nP R + 1 < nP R
    · rw [if_pos hz, Nat.mod_eq_of_lt hz]
    · rw [if_neg hz, show (p + k) % nP R + 1 = nP R by omega, Nat.mod_self]
  have hl := lpF (V := fun k => Vv 78 0 5 [some (vR 48 0), some (vI (nI (bn S (nP R)))), some (vI (nI p)), some (vI (nI ((p + (k - 1)) % nP R))), some (vI (nI (k - 1)))] [] σ) (P := fun k => S ((p + k) % nP R)) (r := fun k => some (some (vI (nI ((p + k) % nP R))), σ)) (nP R) 1 (fun k h1 h2 => by
    show Vv _ _ _ _ _ _ = _
    obtain ⟨k, rfl⟩ : ∃ k', k = k' + 1 := ⟨k - 1, by omega⟩
    have hm : (p + (k + 1)) % nP R < nP R := Nat.mod_lt _ (by omega)
    have hm0 : (p + k) % nP R < nP R := Nat.mod_lt _ (by omega)
    have hs := hstep k
    rw [Nat.add_sub_cancel, v_Roof_nextIn_5, show (5 * 0 + 0) = 0 from rfl, h.prP.1, if_pos (nI_lt (show k < nP R by omega) (by omega)), nI_1, nI_1]
    by_cases hz : (p + k) % nP R + 1 < nP R
    · rw [if_pos hz] at hs
      rw [if_pos (nI_lt hz (by omega)), bit_ne, hs, bit_in (by omega) hm]
      rfl
    · rw [if_neg hz] at hs
      rw [if_neg (nI_nlt (by omega) (by omega))]
      rw [← hs] at hm ⊢
      have := bit_in (P := S) (show nP R ≤ 31 by omega) hm
      rw [bit_ne, ← q_0, this]
      show _ = cond (S 0) _ (Vv _ _ _ [_, _, _, some (vI (nI ((p + (k + 1 + 1 - 1)) % nP R))), some (vI (nI (k + 1 + 1 - 1)))] _ _)
      rw [Nat.add_sub_cancel, ← hs])
  have e1 : (1 - 1 : Nat) = 0 := rfl
  have hl : Vv 78 0 5 [some (vR 48 0), some (vI (nI (bn S (nP R)))), some (vI (nI p)), some (vI (nI ((p + 0) % nP R))), some (vI (nI 0))] [] σ = cond (decide (fr (fun k => S ((p + k) % nP R)) (nP R) 1 < 1 + nP R)) (some (some (vI (nI ((p + fr (fun k => S ((p + k) % nP R)) (nP R) 1) % nP R))), σ)) (Vv 78 0 5 [some (vR 48 0), some (vI (nI (bn S (nP R)))), some (vI (nI p)), some (vI (nI ((p + (1 + nP R - 1)) % nP R))), some (vI (nI (1 + nP R - 1)))] [] σ) := hl
  rw [Nat.add_zero, Nat.mod_eq_of_lt hp] at hl
  refine Eq.trans hl ?_
  have he : Vv 78 0 5 [some (vR 48 0), some (vI (nI (bn S (nP R)))), some (vI (nI p)), some (vI (nI ((p + (1 + nP R - 1)) % nP R))), some (vI (nI (1 + nP R - 1)))] [] σ = some (some (vI (nI p)), σ) := by
    rw [v_Roof_nextIn_5, show (5 * 0 + 0) = 0 from rfl, h.prP.1, if_neg (nI_nlt (by omega) (by omega))]
  rw [he]
  unfold nx
  cases decide (fr (fun k => S ((p + k) % nP R)) (nP R) 1 < 1 + nP R) <;> rfl
