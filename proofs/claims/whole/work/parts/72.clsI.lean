/-! THE CLASS'S STATE; laws, the flue to fell, years drawn -/
/-- what the class writes anew where it is asked -/
def scC (t i j : Nat) : Bool := ((Nat.beq t 3265 || Nat.beq t 3273) && Nat.beq i 1) || (Nat.beq t 3289 && Nat.ble 13 i) || Nat.beq t 3297 || Nat.beq t 3305 || Nat.beq t 56 || Nat.beq t 368881 || Nat.beq t 368889 || Nat.beq t 3329 || Nat.beq t 3337 || Nat.beq t 64 || Nat.beq t 3346 || Nat.beq t 8 || Nat.beq t 3361 || (Nat.beq t 40 && !(Nat.beq j 2 || Nat.beq j 8 || Nat.beq j 9)) || ((Nat.beq t 48 || Nat.beq t 3705 || Nat.beq t 0 || Nat.beq t 15489 || Nat.beq t 15497 || Nat.beq t 15505) && Nat.beq i 1) || ((Nat.beq t 32 || Nat.beq t 105 || Nat.beq t 113) && (Nat.ble 5 i && Nat.ble i 9))
theorem scC_spot (i j : Nat) : scC 3289 i j = Nat.ble 13 i := by
  unfold scC
  cases Nat.ble 13 i <;> rfl
/-- images -/
def IC (σ : St) (I : Nat → RF) (kp : Nat → Bool) : Prop := ∀ k, k < 3 → gI σ 1708 0 k = tv (kp k) ∧ (kp k = true → WF (I k) ∧ HC σ (2 + k) (I k))
/-- slots -/
def SK (σ : St) (K : KT) : Prop := ∀ s, s < 4 → kw K s ≤ 4 ∧ kn K s ≤ 60 ∧ (kw K s = 4 → gI σ 80 s 1 = 0) ∧ (kw K s ≠ 4 → gI σ 80 s 1 = 1 ∧ gI σ 80 s 2 = nI (kw K s) ∧ gI σ 80 s 3 = nI (kn K s) ∧ ∀ k, k < kn K s → gL σ 30906 s k = kc K s k)
/-- the tape -/
def TC (σ : St) (t : TP) : Prop := gI σ 40 0 2 = nI t.2.1 ∧ t.2.1 ≤ 700 ∧ (∀ i, i < t.2.1 → gI σ 358555 0 i = t.1 i ∧ -128 ≤ (t.1 i).toInt ∧ (t.1 i).toInt ≤ 127) ∧ gI σ 40 0 8 = t.2.2.1 ∧ gI σ 40 0 9 = t.2.2.2
def JC (σ : St) (S : AZ) : Prop := HV σ (zR S) ∧ IC σ (zI S) (zk S) ∧ SK σ (zK S) ∧ TC σ (zT S)
theorem HC_sc {σ σ' : St} {k : Nat} {R : RF} (h : HC σ k R) (hk : k ≠ 1) (hf : Fr scC σ σ') : HC σ' k R := h.fr hf (fun j => by
  have hb : Nat.beq k 1 = false := by
    cases hz : Nat.beq k 1
    · rfl
    · exact absurd (Nat.eq_of_beq_eq_true hz) hk
  have hp : ∀ q, q < 5 → (Nat.ble 5 (5 * k + q) && Nat.ble (5 * k + q) 9) = false := fun q hq => by
    cases hz : (Nat.ble 5 (5 * k + q) && Nat.ble (5 * k + q) 9)
    · rfl
    · rw [Bool.and_eq_true] at hz
      have h1 := Nat.le_of_ble_eq_true hz.1
      have h2 := Nat.le_of_ble_eq_true hz.2
      exfalso
      omega
  refine ⟨?_, fun q hq => ⟨?_, ?_, ?_⟩, ?_, ?_, ?_, ?_, ?_⟩
  · show (false || (true && Nat.beq k 1) || false) = false
    rw [hb]; rfl
  · show (false || (true && (Nat.ble 5 (5 * k + q) && Nat.ble (5 * k + q) 9))) = false
    rw [hp q hq]; rfl
  · show (false || (true && (Nat.ble 5 (5 * k + q) && Nat.ble (5 * k + q) 9))) = false
    rw [hp q hq]; rfl
  · show (false || (true && (Nat.ble 5 (5 * k + q) && Nat.ble (5 * k + q) 9))) = false
    rw [hp q hq]; rfl
  · show (false || (true && Nat.beq k 1) || false) = false
    rw [hb]; rfl
  · show (false || (true && Nat.beq k 1) || false) = false
    rw [hb]; rfl
  · show (false || (true && Nat.beq k 1) || false) = false
    rw [hb]; rfl
  · show (false || (true && Nat.beq k 1) || false) = false
    rw [hb]; rfl
  · show (false || (true && Nat.beq k 1) || false) = false
    rw [hb]; rfl)
theorem HV_sc {σ σ' : St} {R : RF} (h : HV σ R) (hf : Fr scC σ σ') : HV σ' R := by
  refine ⟨⟨h.1.1, HC_sc h.1.2 (by omega) hf⟩, fun p hp => ⟨(hf.i rfl).trans (h.2.1 p hp).1, (hf.i rfl).trans (h.2.1 p hp).2⟩, fun z hz l hl => ?_, h.2.2.2⟩
  have hb := h.1.b
  refine (hf.i ?_).trans (h.2.2.1 z hz l hl)
  rw [scC_spot]
  cases hq : Nat.ble 13 (13 * 0 + z)
  · rfl
  · have := Nat.le_of_ble_eq_true hq
    exfalso
    omega
theorem SK_sc {σ σ' : St} {K : KT} (h : SK σ K) (hf : Fr scC σ σ') : SK σ' K := fun s hs => by
  obtain ⟨h1, h2, h3, h4⟩ := h s hs
  refine ⟨h1, h2, fun q => (hf.i rfl).trans (h3 q), fun q => ?_⟩
  obtain ⟨g0, g1, g2, g3⟩ := h4 q
  exact ⟨(hf.i rfl).trans g0, (hf.i rfl).trans g1, (hf.i rfl).trans g2, fun k hk => (hf.l rfl).trans (g3 k hk)⟩
theorem JC_sc {σ σ' : St} {S : AZ} (h : JC σ S) (hf : Fr scC σ σ') : JC σ' S :=
  ⟨HV_sc h.1 hf, fun k hk => ⟨(hf.i rfl).trans (h.2.1 k hk).1, fun q => ⟨((h.2.1 k hk).2 q).1, HC_sc ((h.2.1 k hk).2 q).2 (by omega) hf⟩⟩, SK_sc h.2.2.1 hf, ⟨(hf.i rfl).trans h.2.2.2.1, h.2.2.2.2.1, fun i hi => ⟨(hf.i rfl).trans (h.2.2.2.2.2.1 i hi).1, (h.2.2.2.2.2.1 i hi).2⟩, (hf.i rfl).trans h.2.2.2.2.2.2.1, (hf.i rfl).trans h.2.2.2.2.2.2.2⟩⟩
/-- the class answers, and writes nothing but what it writes anew -/
def RC (m : Nat) (a : List AV) (σ : St) (v : AV) : Prop := ∃ σ', Cc m 0 (vR 88 0 :: a) σ = some (some v, σ') ∧ Fr scC σ σ'
theorem RC_of {m : Nat} {a : List AV} {σ : St} {b : Bool} {X : Option AR} {v w : Int32} (hc : Cc m 0 (vR 88 0 :: a) σ = cond b X (some (some (vI w), σ))) (hX : b = true → ∃ σ3, X = some (some (vI v), σ3) ∧ Fr scC σ σ3) : RC m a σ (vI (cond b v w)) := by
  cases b
  · exact ⟨σ, hc, Fr.rf⟩
  · obtain ⟨σ3, h1, h2⟩ := hX rfl
    exact ⟨σ3, hc.trans h1, h2⟩
theorem RH.rc {m : Nat} {a : List AV} {σ : St} {v : AV} (h : RH m a σ v) : RC m a σ v := ⟨σ, h, Fr.rf⟩
theorem cr_sc {i : Nat} (hi : 1 ≤ i) {σ σ' : St} (h : Fr (crS i) σ σ') : Fr scC σ σ' := h.up (fun t i' j' hz => by
  cases hw : crS i t i' j'
  · rfl
  · unfold crS at hw
    simp only [Bool.and_eq_true] at hw
    have h1 := Nat.le_of_ble_eq_true hw.2.1
    have : scC t i' j' = true := by
      rw [Nat.eq_of_beq_eq_true hw.1]
      rw [scC_spot]
      exact Nat.ble_eq.mpr (show 13 ≤ i' by omega)
    rw [this] at hz
    cases hz)
theorem si_sc {σ σ' : St} (h : Fr (siS 1) σ σ') : Fr scC σ σ' := h.up (fun t i' j' hz => by
  cases hw : siS 1 t i' j'
  · rfl
  · unfold siS at hw
    simp only [Bool.and_eq_true, Bool.or_eq_true] at hw
    have : scC t i' j' = true := by
      rw [Nat.eq_of_beq_eq_true hw.2]
      rcases hw.1 with hw | hw
      · rw [Nat.eq_of_beq_eq_true hw]; rfl
      · rw [Nat.eq_of_beq_eq_true hw]; rfl
    rw [this] at hz
    cases hz)
theorem bit_m1 : ∀ y, y < 12 → bit (-1) (nI y) = true := by decide +kernel
/-- lookAnew() -/
def laS (t i _j : Nat) : Bool := ((Nat.beq t 3265 || Nat.beq t 3273) && Nat.beq i 0) || (Nat.beq t 3289 && Nat.ble i 12)
theorem h_lookAnew {σ : St} {R : RF} (h : K0 σ R) : ∃ σ', Cc 182 0 [vR 88 0] σ = some (none, σ') ∧ Fr laS σ σ' ∧ HV σ' R := by
  have hbb := h.b
  obtain ⟨σ1, c1, f1, s1⟩ := k_look h 0 (-1)
  have h1 := h.si f1
  have s1' : SC σ1 (0 / 2) R (fal R) := by
    intro p hp
    have := s1 p hp
    rw [see_W R (by omega)] at this
    exact this
  obtain ⟨σ2, σ3, c2, c3, f2, f3, r3⟩ := k_course h1 (i := 0) s1' (law := lw R) (by omega) (mvd := -1) (mg := fun _ => true) (fun y hy => bit_m1 y (by omega))
  have h2 := h1.cr f2
  refine ⟨σ3, ?_, (f1.up (fun t i j hq => ?_)).tr (f3.up (fun t i j hq => ?_)), h1.cr f3, s1'.cr f3, r3, vp_ps h.1 (vp_told h.1) _ _ _⟩
  · rw [c_H_lookAnew, c1, cV_s, c2, cV_s, h2.law, c3, cV_s]
  · cases hz : siS 0 t i j
    · rfl
    · unfold siS at hz
      unfold laS at hq
      rw [hz] at hq
      cases hq
  · cases hz : crS 0 t i j
    · rfl
    · unfold crS at hz
      simp only [Bool.and_eq_true] at hz
      unfold laS at hq
      have := Nat.le_of_ble_eq_true hz.2.2
      rw [hz.1, Nat.ble_eq.mpr (show i ≤ 12 by omega)] at hq
      simp at hq
theorem h_joyByLaw {σ : St} {R : RF} (h : HV σ R) {w : Nat} (hw : w ≤ 3) : ∃ σ', Cc 194 0 [vR 88 0, vI (nI w)] σ = some (some (vI (nI (joyA R (see R (fal R)) (PB R w)))), σ') ∧ Fr scC σ σ' := by
  have hbb := h.1.b
  obtain ⟨σ2, σ3, c2, c3, f2, f3, r3⟩ := k_course h.1 (i := 1) h.2.1 hw (mvd := -1) (mg := fun _ => true) (fun y hy => bit_m1 y (by omega))
  have v3 : CV σ3 1 R (fal R) (PB R w) := ⟨h.1.cr f3, SC.cr (i := 1) (j := 0) h.2.1 f3, r3, vp_ps h.1.1 (vp_told h.1.1) _ _ _⟩
  exact ⟨σ3, by rw [c_H_joyByLaw, c2, cV_s, c3, cV_s, k_joyA v3, cI_s], cr_sc (by omega) f3⟩
theorem t_by {σ : St} {R : RF} (h : HV σ R) (a1 : Int32) : RC 162 [vI a1] σ (vI (cond (decide (0 < nN R) && inB a1 4) (nI (joyA R (see R (fal R)) (PB R (cl a1)))) (-2))) := by
  refine RC_of (by rw [c_H_by, h_isTold h.1, cI_s, tv_ite, h_isLaw, cI_s, tv_ite, cond_and]) (fun hq => ?_)
  rw [Bool.and_eq_true] at hq
  obtain ⟨k, hk, rfl⟩ := inB_e (by omega) hq.2
  obtain ⟨σ3, c3, f3⟩ := h_joyByLaw h (w := k) (by omega)
  exact ⟨σ3, by rw [c3, cI_s, cl_n (by omega)], f3⟩
/-- a loop of the class that writes what it writes anew -/
theorem lpHC {R : RF} {V : Nat → St → Option AR} {n : Nat} (k : Nat) (hk : k ≤ n) (h : ∀ j σ, k ≤ j → j < n → HV σ R → ∃ σ', V j σ = V (j + 1) σ' ∧ Fr scC σ σ') : ∀ σ, HV σ R → ∃ σ', V k σ = V n σ' ∧ Fr scC σ σ' := by
  have : ∀ d k, k + d = n → (∀ j σ, k ≤ j → j < n → HV σ R → ∃ σ', V j σ = V (j + 1) σ' ∧ Fr scC σ σ') → ∀ σ, HV σ R → ∃ σ', V k σ = V n σ' ∧ Fr scC σ σ' := by
    intro d
    induction d with
    | zero =>
      intro k hk _ σ _
      have : k = n := by omega
      subst this
      exact ⟨σ, rfl, Fr.rf⟩
    | succ d ih =>
      intro k hk h σ hσ
      obtain ⟨σ1, e1, f1⟩ := h k σ (Nat.le_refl _) (by omega) hσ
      obtain ⟨σ2, e2, f2⟩ := ih (k + 1) (by omega) (fun j σ hj => h j σ (by omega)) σ1 (HV_sc hσ f1)
      exact ⟨σ2, e1.trans e2, f1.tr f2⟩
  exact this (n - k) k (by omega) h
theorem t_law {σ : St} {R : RF} (h : HV σ R) : RC 163 [] σ (vI (cond (decide (0 < nN R)) (lwB R) (-2))) := by
  have hbb := h.1.b
  refine RC_of (by rw [c_H_law, h_isTold h.1, cI_s, tv_ite]) (fun hq => ?_)
  obtain ⟨σ0, c0, f0⟩ := h_joyByLaw h (w := 0) (by omega)
  rw [q_0] at c0
  have h0 := HV_sc h f0
  have hsome : ∀ j, 1 ≤ j → ∃ b, am (fun _ => true) (fun b w => decide (joyA R (see R (fal R)) (PB R b) < joyA R (see R (fal R)) (PB R w))) j = some b := fun j hj => by
    cases j with
    | zero => omega
    | succ j =>
      rw [am_s]
      cases am (fun _ => true) (fun b w => decide (joyA R (see R (fal R)) (PB R b) < joyA R (see R (fal R)) (PB R w))) j with
      | none => exact ⟨_, rfl⟩
      | some c =>
        show ∃ b, cond _ _ _ = some b
        cases (true && decide (joyA R (see R (fal R)) (PB R c) < joyA R (see R (fal R)) (PB R j)))
        · exact ⟨_, rfl⟩
        · exact ⟨_, rfl⟩
  obtain ⟨σ3, c3, f3⟩ := lpHC (R := R) (V := fun j σ => Vv 163 0 23 [some (vR 88 0), some (vI (oI (am (fun _ => true) (fun b w => decide (joyA R (see R (fal R)) (PB R b) < joyA R (see R (fal R)) (PB R w))) j))), some (vI (match am (fun _ => true) (fun b w => decide (joyA R (see R (fal R)) (PB R b) < joyA R (see R (fal R)) (PB R w))) j with | none => 0 | some b => nI (joyA R (see R (fal R)) (PB R b)))), some (vI (nI j)), none] [] σ) (n := 4) 1 (by omega) (fun j τ j1 j2 hτ => by
    obtain ⟨σ1, c1, f1⟩ := h_joyByLaw hτ (w := j) (by omega)
    obtain ⟨b, hb⟩ := hsome j j1
    refine ⟨σ1, ?_, f1⟩
    have w1 := joyA_le h.1.1 (see R (fal R)) (PB R j)
    have w2 := joyA_le h.1.1 (see R (fal R)) (PB R b)
    have e4 : nI j < (4 : Int32) := nI_lt (b := 4) j2 (by omega)
    rw [am_s, hb]
    dsimp only
    rw [v_H_law_23, if_pos e4, c1, cI_s, nI_1, le_lt (by omega) (by omega), Bool.true_and]
    cases decide (joyA R (see R (fal R)) (PB R b) < joyA R (see R (fal R)) (PB R j)) <;> rfl) σ0 h0
  refine ⟨σ3, ?_, f0.tr f3⟩
  rw [c0, cI_s]
  refine Eq.trans c3 ?_
  have e4 : ¬ nI 4 < (4 : Int32) := by decide
  show Vv _ _ _ _ _ _ = _
  rw [v_H_law_23, if_neg e4]
  rfl
theorem fl1_W {R : RF} (hF : nF R ≤ 6) {f : Nat} (hf : f < nF R) : see R (flW R (nI f)) = see R (fl1 R f) := see_congr (fun g hg => by
  unfold flW fl1
  rw [decide_eq_decide.mpr (nI_eq (by omega) (by omega))])
theorem h_without {σ : St} {R : RF} (h : HV σ R) {f : Nat} (hf : f < nF R) : ∃ σ', Cc 195 0 [vR 88 0, vI (nI f)] σ = some (some (vI (nI (JF R f))), σ') ∧ Fr scC σ σ' := by
  have hbb := h.1.b
  obtain ⟨σ1, c1, f1, s1⟩ := k_look h.1 1 (nI f)
  have h1 := h.1.si f1
  have s1' : SC σ1 (2 / 2) R (fl1 R f) := by
    intro p hp
    have := s1 p hp
    rw [fl1_W (by omega) hf] at this
    exact this
  obtain ⟨σ2, σ3, c2, c3, f2, f3, r3⟩ := k_course h1 (i := 2) s1' (law := lw R) (by omega) (mvd := -1) (mg := fun _ => true) (fun y hy => bit_m1 y (by omega))
  have h2 := h1.cr f2
  have v3 : CV σ3 2 R (fl1 R f) (PF R f) := ⟨h1.cr f3, s1'.cr f3, r3, vp_ps h.1.1 (vp_told h.1.1) _ _ _⟩
  exact ⟨σ3, by rw [c_H_joyWithoutFlue, c1, cV_s, c2, cV_s, h2.law, c3, cV_s, k_joyA v3, cI_s]; rfl, (si_sc f1).tr (cr_sc (by omega) f3)⟩
theorem fe_ge (R : RF) : ∀ n, joyA R (see R (fal R)) (P0 R) ≤ (fe R n).2
  | 0 => Nat.le_refl _
  | n + 1 => by
    have ih := fe_ge R n
    show _ ≤ (cond (decide (JF R n ≤ (fe R n).2)) (fe R n) (nI n, JF R n)).2
    by_cases hz : JF R n ≤ (fe R n).2
    · rw [decide_eq_true hz]; exact ih
    · rw [decide_eq_false hz]
      show _ ≤ JF R n
      omega
theorem fl1_id {R : RF} {f : Nat} (h : fal R f = true) : fl1 R f = fal R := by
  funext g
  unfold fl1
  by_cases hg : g = f
  · rw [hg, h]; rfl
  · rw [decide_eq_false hg, Bool.or_false]
theorem t_fell {σ : St} {R : RF} (h : HV σ R) : RC 164 [] σ (vI (cond (decide (0 < nN R)) (fe R (nF R)).1 (-2))) := by
  have hbb := h.1.b
  refine RC_of (by rw [c_H_fell, h_isTold h.1, cI_s, tv_ite, k_joyA h, cI_s]) (fun hq => ?_)
  obtain ⟨σ3, c3, f3⟩ := lpHC (R := R) (V := fun j σ => Vv 164 0 25 [some (vR 88 0), some (vI (fe R j).1), some (vI (nI (fe R j).2)), some (vI (nI j)), none] [] σ) (n := nF R) 0 (by omega) (fun j τ _ hj hτ => by
    have w1 := fe_le h.1.1 j
    have es : fe R (j + 1) = cond (decide (JF R j ≤ (fe R j).2)) (fe R j) (nI j, JF R j) := rfl
    cases hfa : fal R j
    · obtain ⟨σ1, c1, f1⟩ := h_without hτ hj
      have w2 : JF R j ≤ 54054 := joyA_le h.1.1 _ _
      refine ⟨σ1, ?_, f1⟩
      rw [es, v_H_fell_25, hτ.1.prF.1, if_pos (nI_lt hj (by omega)), k_isFallen hτ.1 (by omega), cI_s, hfa, tv_ite, cond_false, c1, cI_s, nI_1, ite_n]
      simp only [nI_leI (show JF R j < 2 ^ 31 by omega) (show (fe R j).2 < 2 ^ 31 by omega)]
      cases decide (JF R j ≤ (fe R j).2) <;> rfl
    · refine ⟨τ, ?_, Fr.rf⟩
      have hJ : JF R j ≤ (fe R j).2 := by
        have := fe_ge R j
        unfold JF PF
        rw [fl1_id hfa]
        exact this
      rw [es, decide_eq_true hJ, cond_true, v_H_fell_25, hτ.1.prF.1, if_pos (nI_lt hj (by omega)), k_isFallen hτ.1 (by omega), cI_s, hfa, tv_ite, cond_true, if_pos (Int32.le_refl _), nI_1]) σ h
  refine ⟨σ3, ?_, f3⟩
  refine Eq.trans c3 ?_
  have h3 := HV_sc h f3
  show Vv _ _ _ _ _ _ = _
  rw [v_H_fell_25, h3.1.prF.1, if_neg (nI_nlt (Nat.le_refl _) (by omega))]
