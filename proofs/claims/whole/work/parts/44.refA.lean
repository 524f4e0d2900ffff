/-! THE REFERENCE: what is seen -/
theorem H0.p {σ : St} {R : RF} {t i : Nat} {g : Nat → Int32} (h : H0 σ R) (ht : ∀ j, scM t i j = true) : H0 (pI σ t i g) R := h.fr (S := scM) (Fr.rf.pI ht) (fun _ _ _ hq => hq)
theorem H0.s {σ : St} {R : RF} {t i j : Nat} {v : Int32} (h : H0 σ R) (ht : scM t i j = true) : H0 (sI σ t i j v) R := h.fr (S := scM) (Fr.rf.sI ht) (fun _ _ _ hq => hq)
theorem two_n (k : Nat) : (2 : Int32) * nI k = nI (2 * k) := pk_mul 2 k
theorem four_n (k : Nat) : (4 : Int32) * nI k = nI (4 * k) := pk_mul 4 k
theorem six_n (k : Nat) : (6 : Int32) * nI k = nI (6 * k) := pk_mul 6 k
theorem nI_2 (k : Nat) : nI k + 2 = nI (k + 2) := nI_add k 2
theorem nI_3 (k : Nat) : nI k + 3 = nI (k + 3) := nI_add k 3
theorem ix0 (n : Nat) (f : Nat → Option AR) : ix 0 (n + 1) f = f 0 := by
  unfold ix
  rw [if_neg]
  · rfl
  · intro hq
    rcases hq with hq | hq
    · exact absurd hq (by decide)
    · have : n + 1 ≤ 0 := hq
      omega
theorem ixh1 (f : Nat → Option AR) : ix 1 45 f = f 1 := rfl
theorem ixh2 (f : Nat → Option AR) : ix 2 45 f = f 2 := rfl
theorem ixh3 (f : Nat → Option AR) : ix 3 45 f = f 3 := rfl
theorem ixh4 (f : Nat → Option AR) : ix 4 45 f = f 4 := rfl
theorem ixh5 (f : Nat → Option AR) : ix 5 45 f = f 5 := rfl
theorem ixh6 (f : Nat → Option AR) : ix 6 45 f = f 6 := rfl
theorem ixh7 (f : Nat → Option AR) : ix 7 45 f = f 7 := rfl
theorem ixh8 (f : Nat → Option AR) : ix 8 45 f = f 8 := rfl
/-- the number of the first, or NONE -/
def fI (P : Nat → Bool) (n : Nat) : Int32 := cond (ex P n) (nI (fr P n 0)) (-1)
theorem fI_congr {P Q : Nat → Bool} {n : Nat} (h : ∀ k, k < n → P k = Q k) : fI P n = fI Q n := by
  unfold fI
  rw [ex_congr h, fr_congr (fun j _ h2 => h j (by omega))]
theorem n_ne {k : Nat} (h : k < 2 ^ 31) : (nI k = -1) = False := by
  apply eq_false
  intro hq
  have h1 : (nI k).toInt = -1 := by rw [hq]; rfl
  rw [nI_toInt h] at h1
  omega
theorem nn1 {k : Nat} (h : k < 2 ^ 31) : ¬ nI k = -1 := fun hq => (n_ne h ▸ hq : False)
theorem fI_no {P : Nat → Bool} {n : Nat} (hn : n < 2 ^ 31) : (fI P n = -1) = (ex P n = false) := by
  unfold fI
  cases hq : ex P n
  · simp
  · have h1 : fr P n 0 < n := of_decide_eq_true hq
    simp [n_ne (show fr P n 0 < 2 ^ 31 by omega)]
/-! a flue between -/
def bt (x y u v : Int) : Bool := decide (x * v = y * u) && (decide (min 0 u ≤ x ∧ x ≤ max 0 u) && decide (min 0 v ≤ y ∧ y ≤ max 0 v))
def btw (R : RF) (f p m : Nat) : Bool := bt ((fx R f : Int) - px R p) ((fy R f : Int) - py R p) ((mx R m : Int) - px R p) ((my R m : Int) - py R p)
theorem i_mul {a b : Int} {A B : Nat} (ha : -(A : Int) ≤ a ∧ a ≤ A) (hb : -(B : Int) ≤ b ∧ b ≤ B) : -((A * B : Nat) : Int) ≤ a * b ∧ a * b ≤ ((A * B : Nat) : Int) := by
  have h1 : (a * b).natAbs ≤ A * B := by
    rw [Int.natAbs_mul]
    exact Nat.mul_le_mul (by omega) (by omega)
  omega
theorem i_mul32 {a b : Int32} {A B : Nat} (ha : -(A : Int) ≤ a.toInt ∧ a.toInt ≤ A) (hb : -(B : Int) ≤ b.toInt ∧ b.toInt ≤ B) (hAB : A * B < 2 ^ 31) : (a * b).toInt = a.toInt * b.toInt := by
  have := i_mul ha hb
  rw [Int32.toInt_mul]
  exact Int.bmod_eq_of_le (by omega) (by omega)
theorem i_le64 (a b : Int32) : (a.toInt64 ≤ b.toInt64) = (a.toInt ≤ b.toInt) := by
  rw [Int64.le_iff_toInt_le, Int32.toInt_toInt64, Int32.toInt_toInt64]
theorem i_less (a : Int32) : (if (0 : Int32) < a then (0 : Int32) else a).toInt = min 0 a.toInt := by
  by_cases h : (0 : Int32) < a
  · rw [if_pos h]
    have : (0 : Int32).toInt < a.toInt := Int32.lt_iff_toInt_lt.mp h
    have e : (0 : Int32).toInt = 0 := rfl
    omega
  · rw [if_neg h]
    have : ¬ (0 : Int32).toInt < a.toInt := fun z => h (Int32.lt_iff_toInt_lt.mpr z)
    have e : (0 : Int32).toInt = 0 := rfl
    omega
theorem i_more (a : Int32) : (if a < (0 : Int32) then (0 : Int32) else a).toInt = max 0 a.toInt := by
  by_cases h : a < (0 : Int32)
  · rw [if_pos h]
    have : a.toInt < (0 : Int32).toInt := Int32.lt_iff_toInt_lt.mp h
    have e : (0 : Int32).toInt = 0 := rfl
    omega
  · rw [if_neg h]
    have : ¬ a.toInt < (0 : Int32).toInt := fun z => h (Int32.lt_iff_toInt_lt.mpr z)
    have e : (0 : Int32).toInt = 0 := rfl
    omega
theorem tv_and (a b : Bool) (σ : St) : cond a (cond b (some (some (vI (tv true)), σ)) (some (some (vI (tv false)), σ))) (some (some (vI (tv false)), σ)) = some (some (vI (tv (a && b))), σ) := by cases a <;> cases b <;> rfl
theorem i_eq {a b : Int32} : (a = b) = (a.toInt = b.toInt) := propext Int32.toInt_inj.symm
theorem s_isBetween {σ : St} {R : RF} (h : H0 σ R) {f p m : Nat} (hf : f < nF R) (hp : p < nP R) (hm : m < nM R) : Cc 256 0 [vR 96 0, vI (nI f), vI (nI p), vI (nI m)] σ = some (some (vI (tv (btw R f p m))), σ) := by
  have hb := h.b
  have h1 := h.1.2.2.1 p hp
  have h2 := h.1.2.2.2.1 m hm
  have h3 := h.1.2.2.2.2.1 f hf
  simp (disch := omega) only [c_M_isBetween, v_M_isBetween_42, v_M_isBetween_84, two_n, nI_1, ix_nI, h.fx hf, h.fy hf, h.px hp, h.py hp, h.mx hm, h.my hm, s_lessOf, s_moreOf, s_in, cI_s, tv_ite, retZ_0, retZ_1, i_le64, i_less, i_more]
  have e1 : (nI (fx R f) - nI (px R p)).toInt = (fx R f : Int) - px R p := pk_sub_toInt (by omega) (by omega)
  have e2 : (nI (fy R f) - nI (py R p)).toInt = (fy R f : Int) - py R p := pk_sub_toInt (by omega) (by omega)
  have e3 : (nI (mx R m) - nI (px R p)).toInt = (mx R m : Int) - px R p := pk_sub_toInt (by omega) (by omega)
  have e4 : (nI (my R m) - nI (py R p)).toInt = (my R m : Int) - py R p := pk_sub_toInt (by omega) (by omega)
  have e5 : ((nI (fx R f) - nI (px R p)) * (nI (my R m) - nI (py R p))).toInt = ((fx R f : Int) - px R p) * ((my R m : Int) - py R p) := by
    rw [i_mul32 (A := 30) (B := 30) (by omega) (by omega) (by omega), e1, e4]
  have e6 : ((nI (fy R f) - nI (py R p)) * (nI (mx R m) - nI (px R p))).toInt = ((fy R f : Int) - py R p) * ((mx R m : Int) - px R p) := by
    rw [i_mul32 (A := 30) (B := 30) (by omega) (by omega) (by omega), e2, e3]
  simp only [i_eq (a := (nI (fx R f) - nI (px R p)) * (nI (my R m) - nI (py R p))), e1, e2, e3, e4, e5, e6]
  unfold btw bt
  by_cases hc : ((fx R f : Int) - px R p) * ((my R m : Int) - py R p) = ((fy R f : Int) - py R p) * ((mx R m : Int) - px R p)
  · rw [if_pos hc, decide_eq_true hc, Bool.true_and]
    exact tv_and _ _ σ
  · rw [if_neg hc, decide_eq_false hc]
    rfl
/-- which flue hides -/
def hb (R : RF) (fl : Nat → Bool) (p m : Nat) : Nat → Bool := fun f => !fl f && btw R f p m
def see (R : RF) (fl : Nat → Bool) (p m : Nat) : Bool := !ex (hb R fl p m) (nF R)
theorem s_hidesOf {σ : St} {R : RF} (h : H0 σ R) {fl : Nat → Bool} (hfl : gI σ 96 0 26 = nI (bn fl (nF R))) {p m : Nat} (hp : p < nP R) (hm : m < nM R) : Cc 257 0 [vR 96 0, vI (nI p), vI (nI m)] σ = some (some (vI (fI (hb R fl p m) (nF R))), σ) := by
  have hbb := h.b
  rw [c_M_hidesOf]
  have hs := lpF0 (V := fun j => Vv 257 0 2 [some (vR 96 0), some (vI (nI p)), some (vI (nI m)), some (vI (nI j))] [] σ) (P := hb R fl p m) (r := fun j => some (some (vI (nI j)), σ)) (nF R) (fun j hj => by
    show Vv _ _ _ _ _ _ = _
    rw [v_M_hidesOf_2]
    simp (disch := omega) only [ixh5, h.F, nI_ltI, hj, if_true, s_isBit, cI_s, hfl, bit_in, tv_ite, s_isBetween h hj hp hm, nI_1]
    unfold hb
    cases fl j <;> cases btw R j p m <;> rfl)
  refine Eq.trans hs ?_
  have he : Vv 257 0 2 [some (vR 96 0), some (vI (nI p)), some (vI (nI m)), some (vI (nI (nF R)))] [] σ = some (some (vI (-1)), σ) := by
    rw [v_M_hidesOf_2]
    simp (disch := omega) only [ixh5, h.F, nI_ltI, Nat.lt_irrefl, if_false]
  show cond _ _ (Vv _ _ _ _ _ _) = _
  rw [he]
  unfold fI
  cases ex (hb R fl p m) (nF R) <;> rfl
/-- what is seen, as the reference's rows have it -/
def SE (σ : St) (R : RF) (fl : Nat → Bool) : Prop := ∀ p, p < nP R → gI σ 3489 0 p = nI (bn (see R fl p) (nM R))
def seR (σ : St) (R : RF) (fl : Nat → Bool) (k : Nat) : Nat → Int32 := fun q => if q < k then nI (bn (see R fl q) (nM R)) else gI σ 3489 0 q
theorem scM_see (j : Nat) : scM 3489 0 j = true := rfl
theorem s_laysSees {σ : St} {R : RF} (h : H0 σ R) {fl : Nat → Bool} (hfl : gI σ 96 0 26 = nI (bn fl (nF R))) : Cc 258 0 [vR 96 0] σ = some (none, pI σ 3489 0 (seR σ R fl (nP R))) := by
  have hbb := h.b
  rw [c_M_laysSees]
  have h0 : pI σ 3489 0 (seR σ R fl 0) = σ := by
    have : seR σ R fl 0 = gI σ 3489 0 := by
      funext q
      unfold seR
      rw [if_neg (by omega)]
    rw [this, pI_id]
  have hs := lpU (V := fun p => Vv 258 0 2 [some (vR 96 0), some (vI (nI p)), none] [] (pI σ 3489 0 (seR σ R fl p))) (n := nP R) (fun p hp => by
    show Vv _ _ _ _ _ _ = Vv _ _ _ _ _ _
    rw [v_M_laysSees_2, s_places, cI_s, gI_pIn (by decide), h.P, if_pos (nI_lt hp (by omega)), ix_nI (by omega) (by omega), sI_pI]
    have hin := lpU (V := fun m => Vv 258 0 19 [some (vR 96 0), some (vI (nI p)), some (vI (nI m))] [] (pI σ 3489 0 (upd (seR σ R fl p) p (nI (bn (see R fl p) m))))) (n := nM R) (fun m hm => by
      show Vv _ _ _ _ _ _ = Vv _ _ _ _ _ _
      rw [v_M_laysSees_19, s_marks, cI_s, gI_pIn (by decide), h.M, if_pos (nI_lt hm (by omega)), ix_nI (by omega) (by omega), s_hidesOf (h.p scM_see) (fl := fl) (by rw [gI_pIn (by decide)]; exact hfl) hp hm, cI_s, ix_nI (by omega) (by omega), sI_pI, gI_pIs, ix_nI (by omega) (by omega), sI_pI, nI_1]
      simp only [fI_no (show nF R < 2 ^ 31 by omega), pk_us]
      have hup : ∀ x y, upd (upd (seR σ R fl p) p x) p y = upd (seR σ R fl p) p y := fun x y => by
        funext q
        unfold upd
        by_cases hq : q = p
        · rw [if_pos hq, if_pos hq]
        · rw [if_neg hq, if_neg hq, if_neg hq]
      cases hq : ex (hb R fl p m) (nF R)
      · have e1 : see R fl p m = true := by unfold see; rw [hq]; rfl
        rw [if_pos rfl, bn_or1 (by omega) e1, hup]
      · have e1 : see R fl p m = false := by unfold see; rw [hq]; rfl
        rw [if_neg (by simp), bn_or0 e1, hup]
        congr 4
        exact (nI_or _ 0).trans (by rw [Nat.or_zero]))
    refine Eq.trans hin ?_
    show Vv _ _ _ _ _ _ = Vv _ _ _ _ _ _
    rw [v_M_laysSees_19, s_marks, cI_s, gI_pIn (by decide), h.M, if_neg (nI_nlt (Nat.le_refl _) (by omega)), nI_1]
    congr 2
    funext q
    unfold upd seR
    by_cases hq : q = p
    · rw [if_pos hq, if_pos (show q < p + 1 by omega), hq]
    · rw [if_neg hq]
      by_cases hq2 : q < p
      · rw [if_pos hq2, if_pos (by omega)]
      · rw [if_neg hq2, if_neg (by omega)])
  have hs : Vv 258 0 2 [some (vR 96 0), some (vI (nI 0)), none] [] (pI σ 3489 0 (seR σ R fl 0)) = Vv 258 0 2 [some (vR 96 0), some (vI (nI (nP R))), none] [] (pI σ 3489 0 (seR σ R fl (nP R))) := hs
  rw [h0] at hs
  refine Eq.trans hs ?_
  rw [v_M_laysSees_2, s_places, cI_s, gI_pIn (by decide), h.P, if_neg (nI_nlt (Nat.le_refl _) (by omega))]
/-- which flues are taken down by the first n acts -/
def faN (R : RF) (n f : Nat) : Bool := ex (fun k => decide (ak R k = 1) && decide (aa R k = f)) n
def fal (R : RF) : Nat → Bool := faN R (nA R)
theorem ex_succ (P : Nat → Bool) (n : Nat) : ex P (n + 1) = (ex P n || P n) := by
  cases hq : ex P (n + 1)
  · have h1 := ex_no.mp hq
    have h2 : ex P n = false := ex_no.mpr (fun k hk => h1 k (by omega))
    rw [h2, h1 n (by omega)]; rfl
  · obtain ⟨k, h1, h2⟩ := ex_iff.mp hq
    by_cases hk : k = n
    · rw [← hk, h2, Bool.or_true]
    · rw [ex_iff.mpr ⟨k, by omega, h2⟩]; rfl
/-- one more, anywhere -/
theorem bn_orK {P : Nat → Bool} {n k : Nat} (hn : n ≤ 31) (hk : k < n) : nI (bn P n) ||| ((1 : Int32) <<< (nI k &&& 31)) = nI (bn (fun j => P j || decide (j = k)) n) := by
  rw [shl_1 k (by omega), nI_or]
  congr 1
  apply tb_ext
  intro j
  rw [Nat.testBit_or, bn_tb, bn_tb, Nat.testBit_two_pow]
  by_cases hj : j = k
  · subst hj
    simp [hk]
  · rw [decide_eq_false (show ¬ k = j from fun z => hj z.symm), decide_eq_false hj, Bool.or_false, Bool.or_false]
theorem s_laysFlues {σ : St} {R : RF} (h : H0 σ R) : Cc 259 0 [vR 96 0] σ = some (none, sI σ 96 0 26 (nI (bn (fal R) (nF R)))) := by
  have hbb := h.b
  rw [c_M_laysFlues]
  have h00 : bn (faN R 0) (nF R) = 0 := bn_0.mpr (fun k _ => rfl)
  have hs := lpU (V := fun j => Vv 259 0 7 [some (vR 96 0), some (vI (nI j))] [] (sI σ 96 0 26 (nI (bn (faN R j) (nF R))))) (n := nA R) (fun j hj => by
    show Vv _ _ _ _ _ _ = Vv _ _ _ _ _ _
    have ha := (h.1.2.2.2.2.2.2.2.2 j hj)
    rw [v_M_laysFlues_7, ixh8, gI_sIn (by decide), h.A, if_pos (nI_lt hj (by omega)), four_n, ix_nI (by omega) (by omega), ix_nI (by omega) (by omega), gI_sIn (by decide), gI_sIs, nI_1]
    by_cases hk : ak R j = 1
    · rw [(h.a1 hj hk).1, if_neg (nn1 (by have := ha.1 hk; omega)), bn_orK (by omega) (ha.1 hk), sI_sI]
      have e1 : bn (fun k => faN R j k || decide (k = aa R j)) (nF R) = bn (faN R (j + 1)) (nF R) := bn_congr (fun k _ => by
        show _ = ex _ (j + 1)
        rw [ex_succ]
        congr 1
        rw [decide_eq_true hk, Bool.true_and]
        exact decide_eq_decide.mpr ⟨Eq.symm, Eq.symm⟩)
      rw [e1]
    · rw [(h.a0 hj hk).1, if_pos rfl]
      have e1 : bn (faN R j) (nF R) = bn (faN R (j + 1)) (nF R) := bn_congr (fun k _ => by
        show _ = ex _ (j + 1)
        rw [ex_succ, decide_eq_false hk, Bool.false_and, Bool.or_false]
        rfl)
      rw [e1])
  have hs : Vv 259 0 7 [some (vR 96 0), some (vI (nI 0))] [] (sI σ 96 0 26 (nI (bn (faN R 0) (nF R)))) = Vv 259 0 7 [some (vR 96 0), some (vI (nI (nA R)))] [] (sI σ 96 0 26 (nI (bn (faN R (nA R)) (nF R)))) := hs
  rw [h00] at hs
  refine Eq.trans hs ?_
  rw [v_M_laysFlues_7, ixh8, gI_sIn (by decide), h.A, if_neg (nI_nlt (Nat.le_refl _) (by omega))]
  rfl
/-! worth -/
def wth (R : RF) (P : Nat → Bool) : Nat := sm (fun m => cond (P m) (mw R m) 0) (nM R)
theorem wth_le {R : RF} (h : WF R) (P : Nat → Bool) : wth R P ≤ 693 := by
  have h1 := sm_le (f := fun m => cond (P m) (mw R m) 0) (c := 99) (n := nM R) (fun m hm => by
    have := (h.2.2.2.1 m hm).2.2
    cases P m
    · exact Nat.zero_le _
    · exact this)
  have := h.1.2.1
  have h2 : wth R P ≤ 99 * nM R := h1
  omega
theorem s_worthW {σ : St} {R : RF} (h : H0 σ R) (P : Nat → Bool) : Cc 260 0 [vR 96 0, vI (nI (bn P (nM R)))] σ = some (some (vI (nI (wth R P))), σ) := by
  have hbb := h.b
  rw [s_worthOf σ _ (nM R) h.M (by omega)]
  have : ∀ j, j ≤ nM R → wS (gI σ 18289 0) (nI (bn P (nM R))) j = nI (sm (fun m => cond (P m) (mw R m) 0) j) := by
    intro j
    induction j with
    | zero => intro _; rfl
    | succ j ih =>
      intro hj
      show wS _ _ j + cond (bit _ _) _ 0 = nI (sm _ j + cond (P j) (mw R j) 0)
      rw [ih (by omega), bit_in (by omega) (by omega), h.mw (by omega), ← nI_add]
      cases P j <;> rfl
  rw [this _ (Nat.le_refl _)]
  rfl
theorem s_placeW {σ : St} {R : RF} (h : H0 σ R) {fl : Nat → Bool} (hs : SE σ R fl) {p : Nat} (hp : p < nP R) : Cc 261 0 [vR 96 0, vI (nI p)] σ = some (some (vI (nI (wth R (see R fl p)))), σ) := by
  have hbb := h.b
  rw [c_M_placeWorth, ix_nI (by omega) (by omega), hs p hp, s_worthW h, cI_s]
theorem s_isGlad {σ : St} {R : RF} (h : H0 σ R) {fl : Nat → Bool} (hs : SE σ R fl) {l p : Nat} (hl : l < nL R) (hp : p < nP R) : Cc 264 0 [vR 96 0, vI (nI l), vI (nI p)] σ = some (some (vI (tv (see R fl p (lh R l)))), σ) := by
  have hbb := h.b
  have hw := (h.1.2.2.2.2.2.2.1 l hl).2
  rw [c_M_isGlad, ix_nI (by omega) (by omega), s_hopeOf σ l (by omega), cI_s, s_isBit, cI_s, retZ_tv, hs p hp, h.lh hl, bit_in (by omega) hw]
