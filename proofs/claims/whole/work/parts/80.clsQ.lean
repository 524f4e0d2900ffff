/-! THE CLASS: the book -/
theorem ifL_le {β : Type} (v : Int64) {n : Nat} (hn : n < 2 ^ 30) (A B : β) : (if lg_cmp v 0 < 0 then A else if lg_cmp v (nI n).toInt64 ≤ 0 then B else A) = cond (inL v (n + 1)) B A := by
  have e : (0 : Int64).toInt = 0 := rfl
  simp only [lg_lt0, lg_le0, Int64.lt_iff_toInt_lt, Int64.le_iff_toInt_le, Int32.toInt_toInt64, nI_toInt (show n < 2 ^ 31 by omega), e]
  unfold inL
  by_cases h1 : v.toInt < 0
  · rw [if_pos h1, decide_eq_false (by omega)]; rfl
  · rw [if_neg h1]
    by_cases h2 : v.toInt ≤ n
    · rw [if_pos h2, decide_eq_true (by omega)]; rfl
    · rw [if_neg h2, decide_eq_false (by omega)]; rfl
theorem ifL_lt {β : Type} (v : Int64) {n : Nat} (hn : n < 2 ^ 30) (A B : β) : (if lg_cmp v 0 < 0 then A else if lg_cmp v (nI n).toInt64 < 0 then B else A) = cond (inL v n) B A := by
  have e : (0 : Int64).toInt = 0 := rfl
  simp only [lg_lt0, Int64.lt_iff_toInt_lt, Int32.toInt_toInt64, nI_toInt (show n < 2 ^ 31 by omega), e]
  unfold inL
  by_cases h1 : v.toInt < 0
  · rw [if_pos h1, decide_eq_false (by omega)]; rfl
  · rw [if_neg h1]
    by_cases h2 : v.toInt < n
    · rw [if_pos h2, decide_eq_true (by omega)]; rfl
    · rw [if_neg h2, decide_eq_false (by omega)]; rfl
theorem ifL_1 {β : Type} (v : Int64) (A B : β) : (if lg_cmp v 0 < 0 then A else if lg_cmp v 1 ≤ 0 then B else A) = cond (inL v 2) B A := ifL_le v (n := 1) (by omega) A B
theorem b_isRight {σ : St} {R : RF} (h : K0 σ R) {K : KT} (hK : SK σ K) {s : Nat} (hs : s < 4) (hw : kw K s ≠ 4) : Cc 8 0 [vR 8 0, vR 80 s] σ = some (some (vI (tv (bkB R K s))), σ) := by
  have hbb := h.b
  obtain ⟨k1, k2, k3, k4⟩ := hK s hs
  obtain ⟨g0, g1, g2, g3⟩ := k4 hw
  have e3 : nI (kn K s) - nI (kn K s) / (3 : Int32) * (3 : Int32) = nI (kn K s % 3) := pk_rem (d := 3) (by omega) (by omega) (by omega)
  rw [c_Book_isRight, if_neg (by decide), g2, e3]
  unfold bkB
  by_cases h3 : kn K s % 3 = 0
  · rw [if_pos (by rw [h3]; rfl), decide_eq_true h3, Bool.true_and]
    have hl' := lpF0 (V := fun i => Vv 8 0 13 [some (vR 8 0), some (vR 80 s), some (vI (nI (3 * i))), none, none, none, none, none, none, none] [] σ) (P := fun i => !bk3 R K s i) (r := fun _ => some (some (vI (tv false)), σ)) (kn K s / 3) (fun i hi => by
      show Vv _ _ _ _ _ _ = _
      have e1 : nI (3 * i) + 3 = nI (3 * (i + 1)) := by rw [nI_3]; rfl
      rw [v_Book_isRight_13, g2, if_pos (nI_lt (by omega) (by omega)), k_number hK hs hw (by omega), cL_s, nI_1, k_number hK hs hw (by omega), cL_s, nI_2, k_number hK hs hw (by omega), cL_s, h.years, h.prM.1, ifL_1, ifL_lt _ (by omega), ifL_le _ (by omega), v_Book_isRight_109, v_Book_isRight_109, if_neg (by decide), if_pos rfl, e1, retZ_0]
      unfold bk3
      cases inL (kc K s (3 * i)) (yr R + 1) <;> cases inL (kc K s (3 * i + 1)) (nM R) <;> cases inL (kc K s (3 * i + 2)) 2 <;> rfl)
    refine Eq.trans hl' ?_
    have he : Vv 8 0 13 [some (vR 8 0), some (vR 80 s), some (vI (nI (3 * (kn K s / 3)))), none, none, none, none, none, none, none] [] σ = some (some (vI (tv true)), σ) := by
      rw [v_Book_isRight_13, g2, if_neg (nI_nlt (by omega) (by omega)), retZ_1]
    show cond _ _ (Vv _ _ _ _ _ _) = _
    rw [he]
    cases ex (fun i => !bk3 R K s i) (kn K s / 3) <;> rfl
  · rw [if_neg (nI_ne0 (by omega) (by omega)), decide_eq_false h3, retZ_0]
    rfl
theorem b_refuse {σ : St} {R : RF} (h : K0 σ R) {K : KT} (hK : SK σ K) (a1 a2 : Int32) : Cc 193 0 [vR 88 0, vI a1, vI a2] σ = some (some (vI (wnB R K a1 a2)), σ) := by
  have hbb := h.b
  rw [c_H_refuseBook, h_isSlot, cI_s, tv_ite, k_has h.prL (by omega), cI_s, tv_ite, cond_and]
  unfold wnB
  cases hq : inB a1 4 && inB a2 (nL R)
  · rfl
  · rw [cond_true, cond_true]
    rw [Bool.and_eq_true] at hq
    obtain ⟨s, hs, rfl⟩ := inB_e (by omega) hq.1
    obtain ⟨k1, k2, k3, k4⟩ := hK s hs
    rw [cl_n (by omega), ix_nI (by omega) (by omega)]
    by_cases hw : kw K s = 4
    · rw [k3 hw, if_pos rfl, decide_eq_true hw]
      rfl
    · rw [(k4 hw).1, if_neg (by decide), ix_nI (by omega) (by omega), b_isRight h hK hs hw, cI_s, tv_ite, decide_eq_false hw]
      cases bkB R K s <;> rfl
theorem bit64 (x k : Int32) : (x >>> (k &&& 31)) &&& 1 = tv (bit x k) := by
  have h := bit_ne x k (0 : Int32) 1
  have h0 := bit_ne x k ((x >>> (k &&& 31)) &&& 1) 0
  cases hb : bit x k
  · rw [hb] at h
    by_cases hz : (x >>> (k &&& 31)) &&& 1 = 0
    · exact hz
    · rw [if_neg hz] at h; cases h
  · exact of_decide_eq_true hb
theorem b_agrees {σ : St} {R : RF} {fl : Nat → Bool} {P : Nat → Nat → Nat} (v : CV σ 1 R fl P) {K : KT} (hK : SK σ K) {s l : Nat} (hs : s < 4) (hw : kw K s ≠ 4) (hl : l < nL R) (hb : bkB R K s = true) : Cc 16 0 [vR 8 0, vR 80 s, vI (nI l)] σ = some (some (vI (tv (swB K (see R fl) P l s))), σ) := by
  have hbb := v.1.b
  obtain ⟨k1, k2, k3, k4⟩ := hK s hs
  obtain ⟨g0, g1, g2, g3⟩ := k4 hw
  unfold bkB at hb
  rw [Bool.and_eq_true] at hb
  have h3 := of_decide_eq_true hb.1
  have hall := ex_no.mp (show ex (fun i => !bk3 R K s i) (kn K s / 3) = false by
    have := hb.2
    cases hz : ex (fun i => !bk3 R K s i) (kn K s / 3)
    · rfl
    · rw [hz] at this; cases this)
  rw [c_Book_agrees]
  refine lpZn (V := fun i => Vv 16 0 2 [some (vR 8 0), some (vR 80 s), some (vI (nI l)), some (vI (nI (3 * i))), none, none] [] σ) (kn K s / 3) (fun i hi => ?_) ?_
  · show Vv _ _ _ _ _ _ = _
    have e1 : nI (3 * i) + 3 = nI (3 * (i + 1)) := by rw [nI_3]; rfl
    have hr := hall i hi
    have hr : bk3 R K s i = true := by
      cases hz : bk3 R K s i
      · rw [hz] at hr; cases hr
      · rfl
    unfold bk3 at hr
    simp only [Bool.and_eq_true] at hr
    obtain ⟨y, hy, ey⟩ := inL_e (by omega) hr.1.1
    obtain ⟨m, hm, em⟩ := inL_e (by omega) hr.1.2
    obtain ⟨w, hw2, ew⟩ := inL_e (by omega) hr.2
    have c1 : (lN y).toInt.toNat = y := by rw [lN_i63 (by omega)]; omega
    have c2 : (lN m).toInt.toNat = m := by rw [lN_i63 (by omega)]; omega
    unfold sw3
    rw [v_Book_agrees_2, g2, if_pos (nI_lt (by omega) (by omega)), k_number hK hs hw (by omega), cL_s, ey, lN_i, k_marksSeen v hl (by omega), cI_s, nI_1, k_number hK hs hw (by omega), cL_s, em, lN_i, nI_2, k_number hK hs hw (by omega), cL_s, ew, bit64, bit_in (by omega) hm, e1, retZ_0, c1, c2]
    simp only [lg_eq0]
    have hcase : w = 0 ∨ w = 1 := by omega
    rcases hcase with rfl | rfl <;> cases see R fl (P y l) m <;> rfl
  · show Vv _ _ _ _ _ _ = _
    rw [v_Book_agrees_2, g2, if_neg (nI_nlt (by omega) (by omega)), retZ_1]
def HVK (σ : St) (R : RF) (K : KT) : Prop := HV σ R ∧ SK σ K
theorem HVK_f {R : RF} {K : KT} {σ σ' : St} (h : HVK σ R K) (hf : Fr scC σ σ') : HVK σ' R K := ⟨HV_sc h.1 hf, SK_sc h.2 hf⟩
theorem lpJC {J : St → Prop} (hJ : ∀ σ σ', J σ → Fr scC σ σ' → J σ') {V : Nat → St → Option AR} {n : Nat} (k : Nat) (hk : k ≤ n) (h : ∀ j σ, k ≤ j → j < n → J σ → ∃ σ', V j σ = V (j + 1) σ' ∧ Fr scC σ σ') : ∀ σ, J σ → ∃ σ', V k σ = V n σ' ∧ Fr scC σ σ' := by
  have : ∀ d k, k + d = n → (∀ j σ, k ≤ j → j < n → J σ → ∃ σ', V j σ = V (j + 1) σ' ∧ Fr scC σ σ') → ∀ σ, J σ → ∃ σ', V k σ = V n σ' ∧ Fr scC σ σ' := by
    intro d
    induction d with
    | zero =>
      intro k hk _ σ _
      have : k = n := by omega
      subst this
      exact ⟨σ, rfl, Fr.rf⟩
    | succ d ih =>
      intro k hk h σ hσ
      obtain ⟨σ1, e1, f1⟩ := h k σ (Nat.le_refl _) (by omega) hσ
      obtain ⟨σ2, e2, f2⟩ := ih (k + 1) (by omega) (fun j σ hj => h j σ (by omega)) σ1 (hJ σ σ1 hσ f1)
      exact ⟨σ2, e1.trans e2, f1.tr f2⟩
  exact this (n - k) k (by omega) h
theorem b_byLaw {σ : St} {R : RF} (h : HV σ R) {w : Nat} (hw : w ≤ 3) : ∃ σ2 σ3, Cc 23 0 [vR 24 1] σ = some (none, σ2) ∧ Cc 25 0 [vR 24 1, vI (nI w), vI (-1)] σ2 = some (none, σ3) ∧ Fr scC σ σ3 ∧ CV σ3 1 R (fal R) (PB R w) := by
  have hbb := h.1.b
  obtain ⟨σ2, σ3, c2, c3, f2, f3, r3⟩ := k_course h.1 (i := 1) h.2.1 hw (mvd := -1) (mg := fun _ => true) (fun y hy => bit_m1 y (by omega))
  exact ⟨σ2, σ3, c2, c3, cr_sc (by omega) f3, h.1.cr f3, SC.cr (i := 1) (j := 0) h.2.1 f3, r3, vp_ps h.1.1 (vp_told h.1.1) _ _ _⟩
theorem t_laws {σ : St} {R : RF} (h : HV σ R) {K : KT} (hK : SK σ K) (a1 a2 : Int32) : RC 161 [vI a1, vI a2] σ (vI (cond (decide (wnB R K a1 a2 = 0)) (nI (bn (fun w => swB K (see R (fal R)) (PB R w) (cl a2) (cl a1)) 4)) (wnB R K a1 a2))) := by
  have hbb := h.1.b
  refine RC_of (by rw [c_H_laws, b_refuse h.1 hK, cI_s, ite_n]) (fun hq => ?_)
  have hq := of_decide_eq_true hq
  obtain ⟨s, l, hs, hl, rfl, rfl, hw, hb⟩ := wn_e (by omega) hq
  rw [cl_n (by omega), cl_n (by omega)]
  obtain ⟨σ3, c3, f3⟩ := lpJC (fun σ σ' => HVK_f (R := R) (K := K)) (V := fun j σ => Vv 10 0 5 [some (vR 8 0), some (vR 80 s), some (vI (nI l)), some (vI (nI (bn (fun w => swB K (see R (fal R)) (PB R w) l s) j))), some (vI (nI j))] [] σ) (n := 4) 0 (by omega) (fun j τ _ hj hτ => by
    obtain ⟨σ1, σ2, c1, c2, f2, v2⟩ := b_byLaw hτ.1 (w := j) (by omega)
    refine ⟨σ2, ?_, f2⟩
    have e4 : nI j < (4 : Int32) := nI_lt (b := 4) hj (by omega)
    show Vv _ _ _ _ _ _ = Vv _ _ _ _ _ _
    rw [v_Book_lawsThatAgree_5, if_pos e4, c1, cV_s, c2, cV_s, b_agrees v2 (HVK_f hτ f2).2 hs hw hl hb, cI_s, tv_ite, nI_1]
    cases hz : swB K (see R (fal R)) (PB R j) l s
    · rw [cond_false, bn_or0 (P := fun w => swB K (see R (fal R)) (PB R w) l s) hz]
    · rw [cond_true, bn_or1 (P := fun w => swB K (see R (fal R)) (PB R w) l s) (by omega) hz]) σ ⟨h, hK⟩
  refine ⟨σ3, ?_, f3⟩
  have e4 : ¬ nI 4 < (4 : Int32) := by decide
  have c4 : Cc 10 0 [vR 8 0, vR 80 s, vI (nI l)] σ = some (some (vI (nI (bn (fun w => swB K (see R (fal R)) (PB R w) l s) 4))), σ3) := by
    rw [c_Book_lawsThatAgree]
    refine Eq.trans c3 ?_
    show Vv _ _ _ _ _ _ = _
    rw [v_Book_lawsThatAgree_5, if_neg e4]
  rw [ix_nI (by omega) (by omega), c4, cI_s]
