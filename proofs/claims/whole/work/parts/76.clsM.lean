/-! THE CLASS: a roof is copied -/
def pqC (q t i _j : Nat) : Bool := (Nat.beq t 32 || Nat.beq t 105 || Nat.beq t 113) && Nat.beq i q
theorem pq_t (q j : Nat) : pqC q 32 q j = true ∧ pqC q 105 q j = true ∧ pqC q 113 q j = true := by
  unfold pqC
  simp
theorem pq_o {q q' : Nat} (h : q' ≠ q) (t j : Nat) : pqC q t q' j = false := by
  unfold pqC
  cases hz : Nat.beq q' q
  · rw [Bool.and_false]
  · exact absurd (Nat.eq_of_beq_eq_true hz) h
theorem pln_lt (q : Nat) : pln (q % 5) < 2 ^ 31 := by
  unfold pln
  split <;> decide
theorem k_add {σ : St} {q n : Nat} (h : gI σ 32 q 2 = nI n) (hn : n < pln (q % 5)) (x y : Int32) : Cc 46 0 [vR 32 q, vI x, vI y] σ = some (none, sI (sI (sI σ 105 q n x) 113 q n y) 32 q 2 (nI (n + 1))) := by
  have hp := pln_lt q
  have e : nI n < Int32.ofNat (pln (q % 5)) := nI_lt hn hp
  rw [c_Pairs_add, c_Pairs_isFull, h, if_pos e, retZ_0, cI_s, tv_ite, cond_false, h, ix_nI hn hp, gI_sIn (by decide), h, ix_nI hn hp, gI_sIn (by decide), gI_sIn (by decide), h, nI_1]
theorem k_copyPairs {σ : St} {q q' n : Nat} {f g : Nat → Nat} (h : PR σ q' n f g) (hq : q' ≠ q) (hn : n ≤ pln (q % 5)) (hn' : n ≤ pln (q' % 5)) : ∃ σ', Cc 52 0 [vR 32 q, vR 32 q'] σ = some (none, σ') ∧ Fr (pqC q) σ σ' ∧ PR σ' q n f g := by
  have hp := pln_lt q
  have hp' := pln_lt q'
  have key : ∀ k j (τ : St), j + k = n → Fr (pqC q) σ τ → gI τ 32 q 2 = nI j → (∀ i, i < j → gI τ 105 q i = nI (f i) ∧ gI τ 113 q i = nI (g i)) → ∃ σ', Vv 52 0 7 [some (vR 32 q), some (vR 32 q'), some (vI (nI j))] [] τ = some (none, σ') ∧ Fr (pqC q) σ σ' ∧ PR σ' q n f g := by
    intro k
    induction k with
    | zero =>
      intro j τ hj hF hs hc
      have hj : j = n := by omega
      subst hj
      refine ⟨τ, by rw [v_Pairs_copyFrom_7, hF.i (pq_o hq _ _), h.1, if_neg (nI_nlt (Nat.le_refl _) (by omega))], hF, hs, hc⟩
    | succ k ih =>
      intro j τ hj hF hs hc
      have hF' := ((hF.sI (t := 105) (i := q) (j := j) (v := nI (f j)) (pq_t q j).2.1).sI (t := 113) (i := q) (j := j) (v := nI (g j)) (pq_t q j).2.2).sI (t := 32) (i := q) (j := 2) (v := nI (j + 1)) (pq_t q 2).1
      obtain ⟨σ', c1, r1⟩ := ih (j + 1) _ (by omega) hF' (gI_sIs _ _ _ _ _) (fun i hi => by
        have e1 : gI (sI (sI (sI τ 105 q j (nI (f j))) 113 q j (nI (g j))) 32 q 2 (nI (j + 1))) 105 q i = if 105 = 105 ∧ q = q ∧ i = j then nI (f j) else gI τ 105 q i := by
          rw [gI_sIn (by decide), gI_sIn (by decide), gI_sI]
        have e2 : gI (sI (sI (sI τ 105 q j (nI (f j))) 113 q j (nI (g j))) 32 q 2 (nI (j + 1))) 113 q i = if 113 = 113 ∧ q = q ∧ i = j then nI (g j) else gI τ 113 q i := by
          rw [gI_sIn (by decide), gI_sI, gI_sIn (by decide)]
        rw [e1, e2]
        by_cases hij : i = j
        · rw [if_pos ⟨rfl, rfl, hij⟩, if_pos ⟨rfl, rfl, hij⟩, hij]
          exact ⟨rfl, rfl⟩
        · rw [if_neg (fun z => hij z.2.2), if_neg (fun z => hij z.2.2)]
          exact hc i (by omega))
      refine ⟨σ', ?_, r1⟩
      rw [v_Pairs_copyFrom_7, hF.i (pq_o hq _ _), h.1, if_pos (nI_lt (show j < n by omega) (by omega)), ix_nI (by omega) hp', ix_nI (by omega) hp', hF.i (pq_o hq _ _), hF.i (pq_o hq _ _), (h.2 j (by omega)).1, (h.2 j (by omega)).2, k_add hs (by omega), cV_s, nI_1]
      exact c1
  rw [c_Pairs_copyFrom]
  exact key n 0 _ (by omega) (Fr.rf.sI (pq_t q 2).1) (gI_sIs _ _ _ _ _) (fun i hi => by omega)
def aqC (a t i _j : Nat) : Bool := (Nat.beq t 0 || Nat.beq t 15489 || Nat.beq t 15497 || Nat.beq t 15505) && Nat.beq i a
theorem aq_t (a j : Nat) : aqC a 0 a j = true ∧ aqC a 15489 a j = true ∧ aqC a 15497 a j = true ∧ aqC a 15505 a j = true := by
  unfold aqC
  simp
theorem aq_o {a b : Nat} (h : b ≠ a) (t j : Nat) : aqC a t b j = false := by
  unfold aqC
  cases hz : Nat.beq b a
  · rw [Bool.and_false]
  · exact absurd (Nat.eq_of_beq_eq_true hz) h
theorem k_notFull {σ : St} {a n : Nat} (h : gI σ 0 a 3 = nI n) (hn : n < 30) : Cc 1 0 [vR 0 a] σ = some (some (vI (tv false)), σ) := by
  have e : nI n < (30 : Int32) := nI_lt (b := 30) hn (by omega)
  rw [c_Acts_isFull, h, if_pos e, retZ_0]
theorem k_full {σ : St} {a : Nat} (h : gI σ 0 a 3 = nI 30) : Cc 1 0 [vR 0 a] σ = some (some (vI (tv true)), σ) := by
  have e : ¬ nI 30 < (30 : Int32) := by decide
  rw [c_Acts_isFull, h, if_neg e, retZ_1]
theorem k_addEx {σ : St} {a n : Nat} (h : gI σ 0 a 3 = nI n) (hn : n < 30) (x y z : Int32) : Cc 2 0 [vR 0 a, vI x, vI y, vI z] σ = some (none, sI (sI (sI (sI σ 15489 a n x) 15497 a n y) 15505 a n z) 0 a 3 (nI (n + 1))) := by
  rw [c_Acts_addExchange, k_notFull h hn, cI_s, tv_ite, cond_false, h, ix_nI hn (by omega), gI_sIn (by decide), h, ix_nI hn (by omega), gI_sIn (by decide), gI_sIn (by decide), h, ix_nI hn (by omega), gI_sIn (by decide), gI_sIn (by decide), gI_sIn (by decide), h, nI_1]
theorem k_copyActs {σ : St} {a b n : Nat} (h : gI σ 0 b 3 = nI n) (hab : b ≠ a) (hn : n ≤ 30) : ∃ σ', Cc 7 0 [vR 0 a, vR 0 b] σ = some (none, σ') ∧ Fr (aqC a) σ σ' ∧ gI σ' 0 a 3 = nI n ∧ ∀ i, i < n → gI σ' 15489 a i = gI σ 15489 b i ∧ gI σ' 15497 a i = gI σ 15497 b i ∧ gI σ' 15505 a i = gI σ 15505 b i := by
  have key : ∀ k j (τ : St), j + k = n → Fr (aqC a) σ τ → gI τ 0 a 3 = nI j → (∀ i, i < j → gI τ 15489 a i = gI σ 15489 b i ∧ gI τ 15497 a i = gI σ 15497 b i ∧ gI τ 15505 a i = gI σ 15505 b i) → ∃ σ', Vv 7 0 7 [some (vR 0 a), some (vR 0 b), some (vI (nI j))] [] τ = some (none, σ') ∧ Fr (aqC a) σ σ' ∧ gI σ' 0 a 3 = nI n ∧ ∀ i, i < n → gI σ' 15489 a i = gI σ 15489 b i ∧ gI σ' 15497 a i = gI σ 15497 b i ∧ gI σ' 15505 a i = gI σ 15505 b i := by
    intro k
    induction k with
    | zero =>
      intro j τ hj hF hs hc
      have hj : j = n := by omega
      subst hj
      refine ⟨τ, by rw [v_Acts_copyFrom_7, hF.i (aq_o hab _ _), h, if_neg (nI_nlt (Nat.le_refl _) (by omega))], hF, hs, hc⟩
    | succ k ih =>
      intro j τ hj hF hs hc
      have hF' := (((hF.sI (t := 15489) (i := a) (j := j) (v := gI σ 15489 b j) (aq_t a j).2.1).sI (t := 15497) (i := a) (j := j) (v := gI σ 15497 b j) (aq_t a j).2.2.1).sI (t := 15505) (i := a) (j := j) (v := gI σ 15505 b j) (aq_t a j).2.2.2).sI (t := 0) (i := a) (j := 3) (v := nI (j + 1)) (aq_t a 3).1
      obtain ⟨σ', c1, r1⟩ := ih (j + 1) _ (by omega) hF' (gI_sIs _ _ _ _ _) (fun i hi => by
        have e1 : gI (sI (sI (sI (sI τ 15489 a j (gI σ 15489 b j)) 15497 a j (gI σ 15497 b j)) 15505 a j (gI σ 15505 b j)) 0 a 3 (nI (j + 1))) 15489 a i = if 15489 = 15489 ∧ a = a ∧ i = j then gI σ 15489 b j else gI τ 15489 a i := by
          rw [gI_sIn (by decide), gI_sIn (by decide), gI_sIn (by decide), gI_sI]
        have e2 : gI (sI (sI (sI (sI τ 15489 a j (gI σ 15489 b j)) 15497 a j (gI σ 15497 b j)) 15505 a j (gI σ 15505 b j)) 0 a 3 (nI (j + 1))) 15497 a i = if 15497 = 15497 ∧ a = a ∧ i = j then gI σ 15497 b j else gI τ 15497 a i := by
          rw [gI_sIn (by decide), gI_sIn (by decide), gI_sI, gI_sIn (by decide)]
        have e3 : gI (sI (sI (sI (sI τ 15489 a j (gI σ 15489 b j)) 15497 a j (gI σ 15497 b j)) 15505 a j (gI σ 15505 b j)) 0 a 3 (nI (j + 1))) 15505 a i = if 15505 = 15505 ∧ a = a ∧ i = j then gI σ 15505 b j else gI τ 15505 a i := by
          rw [gI_sIn (by decide), gI_sI, gI_sIn (by decide), gI_sIn (by decide)]
        rw [e1, e2, e3]
        by_cases hij : i = j
        · rw [if_pos ⟨rfl, rfl, hij⟩, if_pos ⟨rfl, rfl, hij⟩, if_pos ⟨rfl, rfl, hij⟩, hij]
          exact ⟨rfl, rfl, rfl⟩
        · rw [if_neg (fun z => hij z.2.2), if_neg (fun z => hij z.2.2), if_neg (fun z => hij z.2.2)]
          exact hc i (by omega))
      refine ⟨σ', ?_, r1⟩
      rw [v_Acts_copyFrom_7, hF.i (aq_o hab _ _), h, if_pos (nI_lt (show j < n by omega) (by omega)), ix_nI (by omega) (by omega), ix_nI (by omega) (by omega), ix_nI (by omega) (by omega), hF.i (aq_o hab _ _), hF.i (aq_o hab _ _), hF.i (aq_o hab _ _), k_addEx hs (by omega), cV_s, nI_1]
      exact c1
  rw [c_Acts_copyFrom]
  exact key n 0 _ (by omega) (Fr.rf.sI (aq_t a 3).1) (gI_sIs _ _ _ _ _) (fun i hi => by omega)
/-- the cells of roof a -/
def rfC (a t i _j : Nat) : Bool := ((Nat.beq t 48 || Nat.beq t 3705 || Nat.beq t 0 || Nat.beq t 15489 || Nat.beq t 15497 || Nat.beq t 15505) && Nat.beq i a) || ((Nat.beq t 32 || Nat.beq t 105 || Nat.beq t 113) && (Nat.ble (5 * a) i && Nat.ble i (5 * a + 4)))
theorem pq_rf {a q : Nat} (h1 : 5 * a ≤ q) (h2 : q ≤ 5 * a + 4) {σ σ' : St} (h : Fr (pqC q) σ σ') : Fr (rfC a) σ σ' := h.up (fun t i j hz => by
  cases hw : pqC q t i j
  · rfl
  · exfalso
    unfold pqC at hw
    rw [Bool.and_eq_true] at hw
    unfold rfC at hz
    rw [hw.1, Nat.eq_of_beq_eq_true hw.2, Nat.ble_eq.mpr h1, Nat.ble_eq.mpr h2] at hz
    simp at hz)
theorem aq_rf {a : Nat} {σ σ' : St} (h : Fr (aqC a) σ σ') : Fr (rfC a) σ σ' := h.up (fun t i j hz => by
  cases hw : aqC a t i j
  · rfl
  · exfalso
    unfold aqC at hw
    rw [Bool.and_eq_true] at hw
    unfold rfC at hz
    have hx := hw.1
    simp only [Bool.or_eq_true] at hx
    rw [hw.2] at hz
    rcases hx with ((hx | hx) | hx) | hx <;> (rw [hx] at hz; simp at hz))
theorem rfC_R (a j : Nat) : rfC a 48 a j = true ∧ rfC a 3705 a j = true := by
  unfold rfC
  simp
theorem rfC_o {a b : Nat} (h : b ≠ a) (j : Nat) : rfC a 48 b j = false ∧ (∀ q, q < 5 → rfC a 32 (5 * b + q) j = false ∧ rfC a 105 (5 * b + q) j = false ∧ rfC a 113 (5 * b + q) j = false) ∧ rfC a 3705 b j = false ∧ rfC a 0 b j = false ∧ rfC a 15489 b j = false ∧ rfC a 15497 b j = false ∧ rfC a 15505 b j = false := by
  have hb : Nat.beq b a = false := by
    cases hz : Nat.beq b a
    · rfl
    · exact absurd (Nat.eq_of_beq_eq_true hz) h
  have hp : ∀ q, q < 5 → (Nat.ble (5 * a) (5 * b + q) && Nat.ble (5 * b + q) (5 * a + 4)) = false := fun q hq => by
    cases hz : (Nat.ble (5 * a) (5 * b + q) && Nat.ble (5 * b + q) (5 * a + 4))
    · rfl
    · rw [Bool.and_eq_true] at hz
      have h1 := Nat.le_of_ble_eq_true hz.1
      have h2 := Nat.le_of_ble_eq_true hz.2
      exfalso
      omega
  unfold rfC
  rw [hb]
  refine ⟨rfl, fun q hq => ?_, rfl, rfl, rfl, rfl, rfl⟩
  rw [hp q hq]
  exact ⟨rfl, rfl, rfl⟩
theorem k_copyRoof {σ : St} {a b : Nat} {R : RF} (h : HC σ b R) (hW : WB R) (hab : b ≠ a) : ∃ σ', Cc 80 0 [vR 48 a, vR 48 b] σ = some (none, σ') ∧ Fr (rfC a) σ σ' ∧ HC σ' a R := by
  obtain ⟨h1, h2, h3, h4, h5, h6, h7, h8, h9, h10, h11, h12⟩ := h
  have m5 : ∀ c d, d < 5 → (5 * c + d) % 5 = d := fun c d hd => by omega
  obtain ⟨w1, w2, w3, w4, w5, w6, w7⟩ := hW
  have z0 : (sI (sI (sI (sI σ 48 a 0 (gI σ 48 b 0)) 48 a 1 (gI (sI σ 48 a 0 (gI σ 48 b 0)) 48 b 1)) 48 a 2 (gI (sI (sI σ 48 a 0 (gI σ 48 b 0)) 48 a 1 (gI (sI σ 48 a 0 (gI σ 48 b 0)) 48 b 1)) 48 b 2)) 48 a 3 (gI (sI (sI (sI σ 48 a 0 (gI σ 48 b 0)) 48 a 1 (gI (sI σ 48 a 0 (gI σ 48 b 0)) 48 b 1)) 48 a 2 (gI (sI (sI σ 48 a 0 (gI σ 48 b 0)) 48 a 1 (gI (sI σ 48 a 0 (gI σ 48 b 0)) 48 b 1)) 48 b 2)) 48 b 3)) = sI (sI (sI (sI σ 48 a 0 (nI (yr R))) 48 a 1 (nI (lw R))) 48 a 2 (nI (od R))) 48 a 3 (nI (nN R)) := by
    have gg : ∀ (τ : St) (j j' : Nat) (v : Int32), gI (sI τ 48 a j v) 48 b j' = gI τ 48 b j' := fun τ j j' v => by
      rw [gI_sI, if_neg (fun z => hab z.2.1)]
    simp only [gg, h1, h2, h3, h4]
  rw [c_Roof_copyFrom, z0]
  have F0 : Fr (rfC a) σ (sI (sI (sI (sI σ 48 a 0 (nI (yr R))) 48 a 1 (nI (lw R))) 48 a 2 (nI (od R))) 48 a 3 (nI (nN R))) := (((Fr.rf.sI (rfC_R a 0).1).sI (rfC_R a 1).1).sI (rfC_R a 2).1).sI (rfC_R a 3).1
  have q1 : gI (sI (sI (sI (sI σ 48 a 0 (nI (yr R))) 48 a 1 (nI (lw R))) 48 a 2 (nI (od R))) 48 a 3 (nI (nN R))) 48 a 0 = nI (yr R) := by rw [gI_sIj (by decide), gI_sIj (by decide), gI_sIj (by decide), gI_sIs]
  have q2 : gI (sI (sI (sI (sI σ 48 a 0 (nI (yr R))) 48 a 1 (nI (lw R))) 48 a 2 (nI (od R))) 48 a 3 (nI (nN R))) 48 a 1 = nI (lw R) := by rw [gI_sIj (by decide), gI_sIj (by decide), gI_sIs]
  have q3 : gI (sI (sI (sI (sI σ 48 a 0 (nI (yr R))) 48 a 1 (nI (lw R))) 48 a 2 (nI (od R))) 48 a 3 (nI (nN R))) 48 a 2 = nI (od R) := by rw [gI_sIj (by decide), gI_sIs]
  have q4 : gI (sI (sI (sI (sI σ 48 a 0 (nI (yr R))) 48 a 1 (nI (lw R))) 48 a 2 (nI (od R))) 48 a 3 (nI (nN R))) 48 a 3 = nI (nN R) := gI_sIs _ _ _ _ _
  generalize sI (sI (sI (sI σ 48 a 0 (nI (yr R))) 48 a 1 (nI (lw R))) 48 a 2 (nI (od R))) 48 a 3 (nI (nN R)) = τ0 at F0 q1 q2 q3 q4
  have keep : ∀ {τ : St} {q n : Nat} {f g : Nat → Nat}, Fr (rfC a) σ τ → q < 5 → PR σ (5 * b + q) n f g → PR τ (5 * b + q) n f g := fun hf hq hp => ⟨(hf.i ((rfC_o hab _).2.1 _ hq).1).trans hp.1, fun i hi => ⟨(hf.i ((rfC_o hab _).2.1 _ hq).2.1).trans (hp.2 i hi).1, (hf.i ((rfC_o hab _).2.1 _ hq).2.2).trans (hp.2 i hi).2⟩⟩
  have pk : ∀ {τ τ' : St} {q q' n : Nat} {f g : Nat → Nat}, Fr (pqC q') τ τ' → q ≠ q' → PR τ q n f g → PR τ' q n f g := fun hf hq hp => ⟨(hf.i (pq_o hq _ _)).trans hp.1, fun i hi => ⟨(hf.i (pq_o hq _ _)).trans (hp.2 i hi).1, (hf.i (pq_o hq _ _)).trans (hp.2 i hi).2⟩⟩
  obtain ⟨τ1, c1, f1, p1⟩ := k_copyPairs (q := 5 * a + 0) (keep F0 (q := 0) (by omega) h5) (by omega) (by rw [m5 a 0 (by omega)]; exact w1) (by rw [m5 b 0 (by omega)]; exact w1)
  have F1 := F0.tr (pq_rf (by omega) (by omega) f1)
  obtain ⟨τ2, c2, f2, p2⟩ := k_copyPairs (q := 5 * a + 1) (keep F1 (by omega) h6) (by omega) (by rw [m5 a 1 (by omega)]; exact w2) (by rw [m5 b 1 (by omega)]; exact w2)
  have F2 := F1.tr (pq_rf (by omega) (by omega) f2)
  have fw : Fr (rfC a) τ2 (cpI τ2 3705 b (Int32.toNatClampNeg 0) 3705 a (Int32.toNatClampNeg 0) (Int32.toNatClampNeg 7)) := fun t i j hq => ⟨by
    rw [gI_cpI, if_neg]
    rintro ⟨rfl, rfl, -⟩
    exact Bool.noConfusion ((rfC_R i j).2.symm.trans hq), rfl⟩
  have gw : ∀ t i j, t ≠ 3705 → gI (cpI τ2 3705 b (Int32.toNatClampNeg 0) 3705 a (Int32.toNatClampNeg 0) (Int32.toNatClampNeg 7)) t i j = gI τ2 t i j := fun t i j ht => by rw [gI_cpI, if_neg (fun z => ht z.1)]
  have ww : ∀ m, m < 7 → gI (cpI τ2 3705 b (Int32.toNatClampNeg 0) 3705 a (Int32.toNatClampNeg 0) (Int32.toNatClampNeg 7)) 3705 a m = gI σ 3705 b m := fun m hm => by
    rw [gI_cpI, if_pos ⟨rfl, rfl, Nat.zero_le _, show m < 0 + 7 by omega⟩, show (Int32.toNatClampNeg 0) = 0 from rfl, Nat.zero_add, Nat.sub_zero]
    exact F2.i (rfC_o hab _).2.2.1
  have F2' := F2.tr fw
  have pw : ∀ {q n : Nat} {f g : Nat → Nat}, PR τ2 q n f g → PR (cpI τ2 3705 b (Int32.toNatClampNeg 0) 3705 a (Int32.toNatClampNeg 0) (Int32.toNatClampNeg 7)) q n f g := fun hp => ⟨(gw _ _ _ (by decide)).trans hp.1, fun i hi => ⟨(gw _ _ _ (by decide)).trans (hp.2 i hi).1, (gw _ _ _ (by decide)).trans (hp.2 i hi).2⟩⟩
  have p1' := pw (pk f2 (by omega) p1)
  have p2' := pw p2
  have fe : ∀ j, gI (cpI τ2 3705 b (Int32.toNatClampNeg 0) 3705 a (Int32.toNatClampNeg 0) (Int32.toNatClampNeg 7)) 48 a j = gI τ0 48 a j := fun j => by
    rw [gw _ _ _ (by decide), f2.i rfl, f1.i rfl]
  have k7 : (0 ≤ Int32.toInt 7 ∧ 0 ≤ Int32.toInt 0 ∧ 0 ≤ Int32.toInt 0 ∧ Int32.toInt 0 + Int32.toInt 7 ≤ ((7 : Nat) : Int) ∧ Int32.toInt 0 + Int32.toInt 7 ≤ ((7 : Nat) : Int)) := by decide
  rw [c1, cV_s, c2, cV_s, if_pos k7]
  clear c1 c2 f1 f2 p1 p2 gw pw fw
  generalize cpI τ2 3705 b (Int32.toNatClampNeg 0) 3705 a (Int32.toNatClampNeg 0) (Int32.toNatClampNeg 7) = τ3 at F2' ww p1' p2' fe ⊢
  obtain ⟨τ4, c4, f4, p4⟩ := k_copyPairs (q := 5 * a + 2) (keep F2' (by omega) h7) (by omega) (by rw [m5 a 2 (by omega)]; exact w3) (by rw [m5 b 2 (by omega)]; exact w3)
  have F4 := F2'.tr (pq_rf (by omega) (by omega) f4)
  obtain ⟨τ5, c5, f5, p5⟩ := k_copyPairs (q := 5 * a + 3) (keep F4 (by omega) h8) (by omega) (by rw [m5 a 3 (by omega)]; exact w4) (by rw [m5 b 3 (by omega)]; exact w4)
  have F5 := F4.tr (pq_rf (by omega) (by omega) f5)
  obtain ⟨τ6, c6, f6, p6⟩ := k_copyPairs (q := 5 * a + 4) (keep F5 (by omega) h9) (by omega) (by rw [m5 a 4 (by omega)]; exact w5) (by rw [m5 b 4 (by omega)]; exact w5)
  have F6 := F5.tr (pq_rf (by omega) (by omega) f6)
  obtain ⟨τ7, c7, f7, p7, p8⟩ := k_copyActs (a := a) ((F6.i (rfC_o hab _).2.2.2.1).trans h11) hab w6
  have F7 := F6.tr (aq_rf f7)
  refine ⟨τ7, by rw [c4, cV_s, c5, cV_s, c6, cV_s, c7, cV_s], F7, ?_⟩
  have pa : ∀ {q n : Nat} {f g : Nat → Nat}, PR τ6 q n f g → PR τ7 q n f g := fun hp => ⟨(f7.i rfl).trans hp.1, fun i hi => ⟨(f7.i rfl).trans (hp.2 i hi).1, (f7.i rfl).trans (hp.2 i hi).2⟩⟩
  have gr : ∀ j, gI τ7 48 a j = gI τ0 48 a j := fun j => by
    rw [f7.i rfl, f6.i rfl, f5.i rfl, f4.i rfl, fe]
  refine ⟨(gr 0).trans q1, (gr 1).trans q2, (gr 2).trans q3, (gr 3).trans q4, pa (pk f6 (by omega) (pk f5 (by omega) (pk f4 (by omega) p1'))), pa (pk f6 (by omega) (pk f5 (by omega) (pk f4 (by omega) p2'))), pa (pk f6 (by omega) (pk f5 (by omega) p4)), pa (pk f6 (by omega) p5), pa p6, fun m hm => ?_, p7, fun i hi => ?_⟩
  · rw [f7.i rfl, f6.i rfl, f5.i rfl, f4.i rfl, ww m (by omega)]
    exact h10 m hm
  · obtain ⟨y1, y2, y3⟩ := p8 i hi
    rw [y1, y2, y3, F6.i (rfC_o hab _).2.2.2.2.1, F6.i (rfC_o hab _).2.2.2.2.2.1, F6.i (rfC_o hab _).2.2.2.2.2.2]
    exact h12 i hi
