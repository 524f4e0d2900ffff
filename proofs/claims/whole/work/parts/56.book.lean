/-! SLOTS, AND THE BOOK (reference) -/
abbrev KT : Type := (Nat → Nat) × (Nat → Nat) × (Nat → Nat → Int64)
abbrev kw (K : KT) : Nat → Nat := K.1
abbrev kn (K : KT) : Nat → Nat := K.2.1
abbrev kc (K : KT) : Nat → Nat → Int64 := K.2.2
/-- the reference's slots (a width of 4: it has nothing) -/
def SM (σ : St) (K : KT) : Prop := ∀ s, s < 4 → kw K s ≤ 4 ∧ kn K s ≤ 60 ∧ (kw K s = 4 → gI σ 2345 0 s = -1) ∧ (kw K s ≠ 4 → gI σ 2345 0 s = nI (kw K s) ∧ gI σ 2353 0 s = nI (kn K s) ∧ ∀ k, k < kn K s → gL σ 123194 0 (60 * s + k) = kc K s k)
theorem SM.f {σ σ' : St} {K : KT} (h : SM σ K) (hf : Fr scM σ σ') : SM σ' K := fun s hs => by
  obtain ⟨h1, h2, h3, h4⟩ := h s hs
  refine ⟨h1, h2, fun q => (hf.i rfl).trans (h3 q), fun q => ?_⟩
  obtain ⟨g1, g2, g3⟩ := h4 q
  exact ⟨(hf.i rfl).trans g1, (hf.i rfl).trans g2, fun k hk => (hf.l rfl).trans (g3 k hk)⟩
def inL (v : Int64) (n : Nat) : Bool := decide (0 ≤ v.toInt ∧ v.toInt < n)
theorem inL_e {v : Int64} {n : Nat} (hn : n < 2 ^ 31) (h : inL v n = true) : ∃ k, k < n ∧ v = lN k := by
  have h1 : 0 ≤ v.toInt ∧ v.toInt < n := of_decide_eq_true h
  refine ⟨v.toInt.toNat, by omega, Int64.toInt_inj.mp ?_⟩
  rw [lN_i63 (by omega)]
  omega
theorem inL_n {k n : Nat} (hk : k < n) (hn : n < 2 ^ 31) : inL (lN k) n = true := by
  unfold inL
  rw [lN_i63 (by omega)]
  exact decide_eq_true (by omega)
theorem inL_le (v : Int64) {n : Nat} (hn : n < 2 ^ 30) : decide ((0 : Int64) ≤ v ∧ v ≤ (nI n).toInt64) = inL v (n + 1) := by
  unfold inL
  apply decide_eq_decide.mpr
  have e : (0 : Int64).toInt = 0 := rfl
  rw [Int64.le_iff_toInt_le, Int64.le_iff_toInt_le, Int32.toInt_toInt64, e, nI_toInt (by omega)]
  omega
theorem inL_lt (v : Int64) {n : Nat} (hn : n < 2 ^ 30) : decide ((0 : Int64) ≤ v ∧ v ≤ (nI n).toInt64 - 1) = inL v n := by
  unfold inL
  apply decide_eq_decide.mpr
  have e : (0 : Int64).toInt = 0 := rfl
  have e2 : ((nI n).toInt64 - 1).toInt = (n : Int) - 1 := by
    rw [Int64.toInt_sub, Int32.toInt_toInt64, nI_toInt (by omega)]
    show ((n : Int) - 1).bmod _ = _
    exact Int.bmod_eq_of_le (by omega) (by omega)
  rw [Int64.le_iff_toInt_le, Int64.le_iff_toInt_le, e, e2]
  omega
theorem inL_k (v : Int64) (k : Int64) (n : Nat) (hk : k.toInt = n) : decide ((0 : Int64) ≤ v ∧ v ≤ k) = inL v (n + 1) := by
  unfold inL
  apply decide_eq_decide.mpr
  have e : (0 : Int64).toInt = 0 := rfl
  rw [Int64.le_iff_toInt_le, Int64.le_iff_toInt_le, e, hk]
  omega
theorem r_isYearL {σ : St} {R : RF} (h : H0 σ R) (v : Int64) : Cc 248 0 [vR 96 0, vL v] σ = some (some (vI (tv (decide (0 < nN R) && inL v (yr R + 1)))), σ) := by
  have hbb := h.b
  rw [c_M_isYear, r_isRoof h, cI_s, tv_ite, cI_Y h, s_in, cI_s, tv_ite, inL_le v (by omega), retZ_0, retZ_1]
  cases decide (0 < nN R) <;> cases inL v (yr R + 1) <;> rfl
theorem r_isMarkL {σ : St} {R : RF} (h : H0 σ R) (v : Int64) : Cc 245 0 [vR 96 0, vL v] σ = some (some (vI (tv (inL v (nM R)))), σ) := by
  have hbb := h.b
  rw [s_isMark, h.M, inL_lt v (by omega)]
theorem r_isPlaceL {σ : St} {R : RF} (h : H0 σ R) (v : Int64) : Cc 244 0 [vR 96 0, vL v] σ = some (some (vI (tv (inL v (nP R)))), σ) := by
  have hbb := h.b
  rw [s_isPlace, h.P, inL_lt v (by omega)]
/-- a loop that writes what each call writes anew, over what such writing leaves -/
theorem lpJ {J : St → Prop} (hJ : ∀ σ σ', J σ → Fr scM σ σ' → J σ') {V : Nat → St → Option AR} {n : Nat} (k : Nat) (hk : k ≤ n) (h : ∀ j σ, k ≤ j → j < n → J σ → ∃ σ', V j σ = V (j + 1) σ' ∧ Fr scM σ σ') : ∀ σ, J σ → ∃ σ', V k σ = V n σ' ∧ Fr scM σ σ' := by
  have : ∀ d k, k + d = n → (∀ j σ, k ≤ j → j < n → J σ → ∃ σ', V j σ = V (j + 1) σ' ∧ Fr scM σ σ') → ∀ σ, J σ → ∃ σ', V k σ = V n σ' ∧ Fr scM σ σ' := by
    intro d
    induction d with
    | zero =>
      intro k hk _ σ _
      have : k = n := by omega
      subst this
      exact ⟨σ, rfl, Fr.rf⟩
    | succ d ih =>
      intro k hk h σ hσ
      obtain ⟨σ1, e1, f1⟩ := h k σ (Nat.le_refl _) (by omega) hσ
      obtain ⟨σ2, e2, f2⟩ := ih (k + 1) (by omega) (fun j σ hj => h j σ (by omega)) σ1 (hJ σ σ1 hσ f1)
      exact ⟨σ2, e1.trans e2, f1.tr f2⟩
  exact this (n - k) k (by omega) h
def HK (σ : St) (R : RF) (K : KT) : Prop := H0 σ R ∧ SM σ K
theorem HK_f (R : RF) (K : KT) (σ σ' : St) (h : HK σ R K) (hf : Fr scM σ σ') : HK σ' R K := ⟨h.1.f hf, h.2.f hf⟩
/-- a row of the book is as it must be -/
def bk3 (R : RF) (K : KT) (s i : Nat) : Bool := inL (kc K s (3 * i)) (yr R + 1) && inL (kc K s (3 * i + 1)) (nM R) && inL (kc K s (3 * i + 2)) 2
def bkB (R : RF) (K : KT) (s : Nat) : Bool := decide (kn K s % 3 = 0) && !ex (fun i => !bk3 R K s i) (kn K s / 3)
/-- why not by this book: 0 if it may be -/
def wnB (R : RF) (K : KT) (a1 a2 : Int32) : Int32 := cond (inB a1 4 && inB a2 (nL R)) (cond (decide (kw K (cl a1) = 4)) (-6) (cond (bkB R K (cl a1)) 0 (-2))) (-2)
theorem sixty (k : Nat) : (60 : Int32) * nI k = nI (60 * k) := pk_mul 60 k
theorem nLN {R : RF} (h : WF R) {l : Nat} (hl : l < nL R) : 0 < nN R := by
  rcases Nat.eq_zero_or_pos (nN R) with h0 | h0
  · have := (h.2.1 h0).2.2.2.2.1
    omega
  · exact h0
theorem s_whyNotBook {σ : St} {R : RF} (h : H0 σ R) {K : KT} (hK : SM σ K) (a1 a2 : Int32) : Cc 338 0 [vR 96 0, vI a1, vI a2] σ = some (some (vI (wnB R K a1 a2)), σ) := by
  have hbb := h.b
  rw [c_M_whyNotBook, r_isSlot, cI_s, tv_ite, r_isMan h, cI_s, tv_ite, cond_and]
  unfold wnB
  cases hq : inB a1 4 && inB a2 (nL R)
  · rfl
  · rw [cond_true, cond_true]
    rw [Bool.and_eq_true] at hq
    obtain ⟨s, hs, rfl⟩ := inB_e (by omega) hq.1
    obtain ⟨l, hl, rfl⟩ := inB_e (by omega) hq.2
    obtain ⟨k1, k2, k3, k4⟩ := hK s hs
    rw [cl_n (by omega), ix_nI (by omega) (by omega)]
    by_cases hw : kw K s = 4
    · rw [k3 hw, if_pos rfl, decide_eq_true hw]
      rfl
    · obtain ⟨g1, g2, g3⟩ := k4 hw
      rw [g1, if_neg (nn1 (by omega)), ix_nI (by omega) (by omega), if_neg (by decide), g2, decide_eq_false hw]
      have e3 : nI (kn K s) - nI (kn K s) / (3 : Int32) * (3 : Int32) = nI (kn K s % 3) := pk_rem (d := 3) (by omega) (by omega) (by omega)
      rw [e3]
      unfold bkB
      by_cases h3 : kn K s % 3 = 0
      · rw [if_pos (by rw [h3]; rfl), decide_eq_true h3, Bool.true_and, cond_false]
        have hl' := lpF0 (V := fun i => Vv 338 0 47 [some (vR 96 0), some (vI (nI s)), some (vI (nI l)), some (vI (nI (3 * i))), none] [] σ) (P := fun i => !bk3 R K s i) (r := fun _ => some (some (vI (-2)), σ)) (kn K s / 3) (fun i hi => by
          show Vv _ _ _ _ _ _ = _
          have e1 : nI (3 * i) + 3 = nI (3 * (i + 1)) := by rw [nI_3]; rfl
          rw [v_M_whyNotBook_47, ix_nI (by omega) (by omega), g2, if_pos (nI_lt (by omega) (by omega)), sixty, nI_add, ix_nI (by omega) (by omega), g3 (3 * i) (by omega), r_isYearL h, cI_s, tv_ite, nI_1, ix_nI (by omega) (by omega), show 60 * s + 3 * i + 1 = 60 * s + (3 * i + 1) by omega, g3 (3 * i + 1) (by omega), r_isMarkL h, cI_s, tv_ite, nI_2, ix_nI (by omega) (by omega), show 60 * s + 3 * i + 2 = 60 * s + (3 * i + 2) by omega, g3 (3 * i + 2) (by omega), s_in, inL_k _ 1 1 rfl, cI_s, tv_ite, e1, decide_eq_true (nLN h.1 hl), Bool.true_and]
          unfold bk3
          cases inL (kc K s (3 * i)) (yr R + 1) <;> cases inL (kc K s (3 * i + 1)) (nM R) <;> cases inL (kc K s (3 * i + 2)) (1 + 1) <;> rfl)
        refine Eq.trans hl' ?_
        have he : Vv 338 0 47 [some (vR 96 0), some (vI (nI s)), some (vI (nI l)), some (vI (nI (3 * (kn K s / 3)))), none] [] σ = some (some (vI 0), σ) := by
          rw [v_M_whyNotBook_47, ix_nI (by omega) (by omega), g2, if_neg (nI_nlt (by omega) (by omega))]
        show cond _ _ (Vv _ _ _ _ _ _) = _
        rw [he]
        cases ex (fun i => !bk3 R K s i) (kn K s / 3) <;> rfl
      · rw [if_neg (nI_ne0 (by omega) (by omega)), decide_eq_false h3]
        rfl
/-- he saw so, in one row -/
def sw3 (K : KT) (sf : Nat → Nat → Bool) (P : Nat → Nat → Nat) (l s i : Nat) : Bool := sf (P (kc K s (3 * i)).toInt.toNat l) (kc K s (3 * i + 1)).toInt.toNat == decide (kc K s (3 * i + 2) = 1)
def swB (K : KT) (sf : Nat → Nat → Bool) (P : Nat → Nat → Nat) (l s : Nat) : Bool := !ex (fun i => !sw3 K sf P l s i) (kn K s / 3)
theorem s_isSo {σ : St} {R : RF} {fl : Nat → Bool} {P : Nat → Nat → Nat} (v : YV σ R fl P) {K : KT} (hK : SM σ K) {s l : Nat} (hs : s < 4) (hw : kw K s ≠ 4) (hl : l < nL R) (hb : bkB R K s = true) : Cc 339 0 [vR 96 0, vI (nI s), vI (nI l)] σ = some (some (vI (tv (swB K (see R fl) P l s))), σ) := by
  have hbb := v.1.b
  obtain ⟨k1, k2, k3, k4⟩ := hK s hs
  obtain ⟨g1, g2, g3⟩ := k4 hw
  unfold bkB at hb
  rw [Bool.and_eq_true] at hb
  have h3 := of_decide_eq_true hb.1
  have hall := ex_no.mp (show ex (fun i => !bk3 R K s i) (kn K s / 3) = false by
    have := hb.2
    cases hz : ex (fun i => !bk3 R K s i) (kn K s / 3)
    · rfl
    · rw [hz] at this; cases this)
  rw [c_M_isSo]
  refine lpZn (V := fun i => Vv 339 0 2 [some (vR 96 0), some (vI (nI s)), some (vI (nI l)), some (vI (nI (3 * i))), none] [] σ) (kn K s / 3) (fun i hi => ?_) ?_
  · show Vv _ _ _ _ _ _ = _
    have e1 : nI (3 * i) + 3 = nI (3 * (i + 1)) := by rw [nI_3]; rfl
    have hr := hall i hi
    have hr : bk3 R K s i = true := by
      cases hz : bk3 R K s i
      · rw [hz] at hr; cases hr
      · rfl
    unfold bk3 at hr
    simp only [Bool.and_eq_true] at hr
    obtain ⟨y, hy, ey⟩ := inL_e (by omega) hr.1.1
    obtain ⟨m, hm, em⟩ := inL_e (by omega) hr.1.2
    have c1 : (lN y).toInt.toNat = y := by rw [lN_i63 (by omega)]; omega
    have c2 : (lN m).toInt.toNat = m := by rw [lN_i63 (by omega)]; omega
    unfold sw3
    rw [v_M_isSo_2, ix_nI (by omega) (by omega), g2, if_pos (nI_lt (by omega) (by omega)), sixty, nI_add, ix_nI (by omega) (by omega), g3 (3 * i) (by omega), ey, lN_i, s_seesAt v hl (by omega), cI_s, nI_1, ix_nI (by omega) (by omega), show 60 * s + 3 * i + 1 = 60 * s + (3 * i + 1) by omega, g3 (3 * i + 1) (by omega), em, lN_i, s_isBit, bit_in (by omega) hm, cI_s, nI_2, ix_nI (by omega) (by omega), show 60 * s + 3 * i + 2 = 60 * s + (3 * i + 2) by omega, g3 (3 * i + 2) (by omega), e1, retZ_0, c1, c2]
    simp only [lg_eq0, tv_0, tv_1, ite_n]
    cases see R fl (P y l) m <;> cases decide (kc K s (3 * i + 2) = 1) <;> rfl
  · show Vv _ _ _ _ _ _ = _
    rw [v_M_isSo_2, ix_nI (by omega) (by omega), g2, if_neg (nI_nlt (by omega) (by omega)), retZ_1]
theorem wn_e {R : RF} (hbb : nL R ≤ 6) {K : KT} {a1 a2 : Int32} (h : wnB R K a1 a2 = 0) : ∃ s l, s < 4 ∧ l < nL R ∧ a1 = nI s ∧ a2 = nI l ∧ kw K s ≠ 4 ∧ bkB R K s = true := by
  unfold wnB at h
  cases hz : inB a1 4 && inB a2 (nL R)
  · rw [hz] at h; cases h
  · rw [hz] at h
    rw [Bool.and_eq_true] at hz
    obtain ⟨s, hs, rfl⟩ := inB_e (by omega) hz.1
    obtain ⟨l, hl, rfl⟩ := inB_e (by omega) hz.2
    rw [cl_n (by omega)] at h
    by_cases hw : kw K s = 4
    · rw [decide_eq_true hw] at h; cases h
    · rw [decide_eq_false hw] at h
      cases hb : bkB R K s
      · rw [hb] at h; cases h
      · exact ⟨s, l, hs, hl, rfl, rfl, hw, hb⟩
theorem m_laws {σ : St} {R : RF} (h : H0 σ R) {K : KT} (hK : SM σ K) (a1 a2 : Int32) : RM 345 [vI a1, vI a2] σ (vI (cond (decide (wnB R K a1 a2 = 0)) (nI (bn (fun w => swB K (see R (fal R)) (PB R w) (cl a2) (cl a1)) 4)) (wnB R K a1 a2))) := by
  have hbb := h.b
  have h1 := thr_H h
  have hK1 := hK.f (thr_F σ)
  refine RM_of (by rw [c_M_laws, s_whyNotBook h1 hK1, cI_s, ite_n]) (thr_F σ) (fun hq => ?_)
  have hq := of_decide_eq_true hq
  rw [hq]
  obtain ⟨s, l, hs, hl, rfl, rfl, hw, hb⟩ := wn_e (by omega) hq
  rw [cl_n (by omega), cl_n (by omega)]
  obtain ⟨σ3, c3, f3⟩ := lpJ (HK_f R K) (V := fun j σ => Vv 345 0 24 [some (vR 96 0), some (vI (nI s)), some (vI (nI l)), some (vI 0), some (vI (nI (bn (fun w => swB K (see R (fal R)) (PB R w) l s) j))), some (vI (nI j))] [] σ) (n := 4) 0 (by omega) (fun j τ _ hj hτ => by
    obtain ⟨σ1, c1, f1, v1⟩ := s_joyBy hτ.1 (w := j) (by omega)
    refine ⟨σ1, ?_, f1⟩
    have e4 : nI j < (4 : Int32) := nI_lt (b := 4) hj (by omega)
    show Vv _ _ _ _ _ _ = Vv _ _ _ _ _ _
    rw [v_M_laws_24, if_pos e4, c1, cI_s, s_isSo v1 (hτ.2.f f1) hs hw hl hb, cI_s, tv_ite, or0, nI_1]
    cases hz : swB K (see R (fal R)) (PB R j) l s
    · rw [cond_false, bn_or0 (P := fun w => swB K (see R (fal R)) (PB R w) l s) hz]
    · rw [cond_true, bn_or1 (P := fun w => swB K (see R (fal R)) (PB R w) l s) (by omega) hz]) _ ⟨h1, hK1⟩
  refine ⟨σ3, ?_, f3⟩
  refine Eq.trans c3 ?_
  have e4 : ¬ nI 4 < (4 : Int32) := by decide
  show Vv _ _ _ _ _ _ = _
  rw [v_M_laws_24, if_neg e4]
