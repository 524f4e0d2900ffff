/-! SHIFTS: THE CLASS, the whole BFS -/
theorem nmt_p {f : Nat → Nat} {P : Nat} : ∀ {n : Nat}, (∀ i, i < n → f i < P) → nmt f n < 2 ^ P
  | 0, _ => Nat.pow_pos (by decide)
  | n + 1, h => by
    show nmt f n ||| 2 ^ f n < 2 ^ P
    exact Nat.or_lt_two_pow (nmt_p (fun i hi => h i (by omega))) (Nat.pow_lt_pow_right (by omega) (h n (by omega)))
theorem rws_P {P L : Nat} {r : List Nat} (h : r ∈ rws P L 0) {i : Nat} (hi : i < L) : r.getD i 0 < P := by
  have h1 := rws_len P L 0 r h
  exact rws_lt P L 0 r h _ (getD_in (show i < r.length by omega))
/-- where man l of row r may go -/
theorem may_bits {R : RF} (hP : nP R ≤ 6) {r : List Nat} (hr : r ∈ rws (nP R) (nL R) 0) (l : Nat) : nI (bn (wayB R (r.getD l 0)) (nP R)) &&& (nI (nmt (fun i => r.getD i 0) (nL R)) ^^^ (-1 : Int32)) = nI (bn (mayB R r l) (nP R)) := by
  have ht := nmt_p (f := fun i => r.getD i 0) (P := nP R) (n := nL R) (fun i hi => rws_P hr hi)
  have e : nI (nmt (fun i => r.getD i 0) (nL R)) = nI (bn (nmt (fun i => r.getD i 0) (nL R)).testBit (nP R)) := congrArg nI (bn_of ht)
  rw [e, bn_anot]
  rfl
theorem may_bit {R : RF} (hP : nP R ≤ 6) {r : List Nat} {l p : Nat} (hp : p < nP R) {β : Type} (a b : β) : (if (nI (bn (mayB R r l) (nP R)) >>> (nI p &&& 31)) &&& 1 = 0 then a else b) = cond (mayB R r l p) b a := by
  have h1 := bn_lt (mayB R r l) (nP R)
  have h2 : 2 ^ nP R ≤ 2 ^ 6 := Nat.pow_le_pow_right (by omega) hP
  rw [bit_ne, bit_n (by omega) (by omega), bn_tb, decide_eq_true hp]
  rfl
theorem k_next51 {R : RF} {r : List Nat} (hr : r ∈ rws (nP R) (nL R) 0) {d l : Nat} (hd : d + 1 < 100000) (hl : l < nL R) (l2 : Int32) {v : VS} : ∀ (k p : Nat) (τ : St), p + k = nP R → BC τ R (vsP R r d l p v) → BV R (vsP R r d l p v) (d + 1) → (∀ j, j < nL R → j ≠ l → gI τ 3329 0 j = nI (r.getD j 0)) → ∃ σ', Vv 92 0 51 [some (vR 64 0), some (vI (nI (d + 1))), some (vI l2), some (vI (nI l)), some (vI (nI (r.getD l 0))), some (vI (nI (bn (mayB R r l) (nP R)))), some (vI (nI p))] [] τ = Vv 92 0 14 [some (vR 64 0), some (vI (nI (d + 1))), some (vI l2), some (vI (nI (l + 1))), none, none, none] [] σ' ∧ Fr sxS τ σ' ∧ BC σ' R (vsP R r d l (nP R) v) ∧ BV R (vsP R r d l (nP R) v) (d + 1) ∧ ∀ j, j < nL R → gI σ' 3329 0 j = nI (r.getD j 0)
  | 0, p, τ, hp, hB, hV, hrow => by
    have hbb := hB.1.b
    have hp : p = nP R := by omega
    subst hp
    have hF : Fr snS τ (sI τ 3329 0 l (nI (r.getD l 0))) := Fr.rf.sI rfl
    refine ⟨sI τ 3329 0 l (nI (r.getD l 0)), by rw [v_Shifting_visitNeighbours_51, hB.1.prP.1, if_neg (nI_nlt (Nat.le_refl _) (by omega)), ix_nI (by omega) (by omega), nI_1], sn_sx hF, BC_sn hB hF, hV, fun j hj => ?_⟩
    by_cases hjl : j = l
    · rw [hjl, gI_sIs]
    · rw [gI_sIj hjl]
      exact hrow j hj hjl
  | k + 1, p, τ, hp, hB, hV, hrow => by
    have hbb := hB.1.b
    have hLP := vp_le (vp_told hB.1.1)
    have hlen := rws_len _ _ _ r hr
    have es : vsP R r d l (p + 1) v = cond (mayB R r l p) (vst (vsP R r d l p v) (r.set l p) (d + 1)) (vsP R r d l p v) := rfl
    rw [v_Shifting_visitNeighbours_51, hB.1.prP.1, if_pos (nI_lt (by omega) (by omega)), may_bit (by omega) (by omega), nI_1]
    cases hb : mayB R r l p
    · rw [hb, cond_false] at es
      rw [cond_false]
      exact k_next51 hr hd hl l2 k (p + 1) τ (by omega) (by rw [es]; exact hB) (by rw [es]; exact hV) hrow
    · rw [hb, cond_true] at es
      have hset := rws_set hr (show p < nP R by omega) (may_not (rws_len _ _ _ _ hr) hb) l
      have hF : Fr snS τ (sI τ 3329 0 l (nI p)) := Fr.rf.sI rfl
      obtain ⟨σ1, c1, f1, B1, row1⟩ := k_visit (BC_sn hB hF) hV hd hset (fun i hi => by
        rw [getD_set (by omega) (by omega)]
        by_cases hil : i = l
        · rw [if_pos hil, hil, gI_sIs]
        · rw [if_neg hil, gI_sIj hil]
          exact hrow i hi hil)
      obtain ⟨σ2, c2, f2, B2, V2, row2⟩ := k_next51 hr hd hl l2 k (p + 1) σ1 (by omega) (by rw [es]; exact B1) (by rw [es]; exact BV_vst hV hset) (fun j hj hjl => by
        rw [row1, gI_sIj hjl]
        exact hrow j hj hjl)
      refine ⟨σ2, ?_, ((sn_sx hF).tr f1).tr f2, B2, V2, row2⟩
      rw [cond_true, ix_nI (by omega) (by omega), c1, cV_s]
      exact c2
theorem k_next14 {R : RF} {r : List Nat} (hr : r ∈ rws (nP R) (nL R) 0) {d : Nat} (hd : d + 1 < 100000) {v : VS} : ∀ (k l : Nat) (τ : St), l + k = nL R → BC τ R (vsL R r d l v) → BV R (vsL R r d l v) (d + 1) → (∀ j, j < nL R → gI τ 3329 0 j = nI (r.getD j 0)) → ∃ σ', Vv 92 0 14 [some (vR 64 0), some (vI (nI (d + 1))), some (vI (nI (nmt (fun i => r.getD i 0) (nL R)))), some (vI (nI l)), none, none, none] [] τ = some (none, σ') ∧ Fr sxS τ σ' ∧ BC σ' R (vsL R r d (nL R) v)
  | 0, l, τ, hl, hB, hV, hrow => by
    have hbb := hB.1.b
    have hl : l = nL R := by omega
    subst hl
    exact ⟨τ, by rw [v_Shifting_visitNeighbours_14, hB.1.prL.1, if_neg (nI_nlt (Nat.le_refl _) (by omega))], Fr.rf, hB⟩
  | k + 1, l, τ, hl, hB, hV, hrow => by
    have hbb := hB.1.b
    have h6 := rws_6 (i := l) (by omega) hr (by omega)
    obtain ⟨σ1, c1, f1, B1, V1, row1⟩ := k_next51 hr hd (show l < nL R by omega) (nI (nmt (fun i => r.getD i 0) (nL R))) (v := vsL R r d l v) (nP R) 0 τ (by omega) hB hV (fun j hj _ => hrow j hj)
    obtain ⟨σ2, c2, f2, B2⟩ := k_next14 hr hd (v := v) k (l + 1) σ1 (by omega) B1 V1 row1
    refine ⟨σ2, ?_, f1.tr f2, B2⟩
    have hn : Cc 93 0 [vR 64 0, vI (nI (r.getD l 0))] τ = some (some (vI (nI (bn (wayB R (r.getD l 0)) (nP R)))), τ) := by
      rw [c_Shifting_nearTo, if_neg (nI_pos (by omega)), if_pos (show nI (r.getD l 0) < (6 : Int32) from nI_lt (b := 6) h6 (by omega)), ix_nI h6 (by omega), hB.2.2.2.2.2 _ h6]
    rw [v_Shifting_visitNeighbours_14, hB.1.prL.1, if_pos (nI_lt (by omega) (by omega)), ix_nI (by omega) (by omega), hrow l (by omega), hn, cI_s, may_bits (by omega) hr l]
    exact c1.trans c2
theorem k_distS {σ : St} {R : RF} {v : VS} (h : BC σ R v) {r : List Nat} (hr : r ∈ rws (nP R) (nL R) 0) (hrow : ∀ i, i < nL R → gI σ 3329 0 i = nI (r.getD i 0)) : Cc 96 0 [vR 64 0] σ = some (some (vI (dsn (-1) r v)), σ) := by
  have hbb := h.1.b
  have hLP := vp_le (vp_told h.1.1)
  have hlt := nmb_lt (R := R) (by omega) (by omega) hr
  rw [c_Shifting_distanceOfRow, k_numS h.1 hr hrow, cI_s, if_neg (nI_pos (by omega)), if_pos (lt720 hlt), ix_nI hlt (by omega), h.2.2.2.2.1 r hr]
theorem k_bfs67 {R : RF} : ∀ (k i : Nat) (τ : St) (v : VS), i + k = 721 → BC τ R v → BI R i v → i ≤ v.length → ∃ σ', Vv 91 0 67 [some (vR 64 0), some (vI (nI i))] [] τ = some (none, σ') ∧ Fr sxS τ σ' ∧ BC σ' R (bfs R k i v)
  | 0, i, τ, v, hk, hB, hI, hi => by
    have hbb := hB.1.b
    have hLP := vp_le (vp_told hB.1.1)
    have hm := hmr_le (nP R) (by omega) (nL R) (by omega)
    have hlen := BV_len (by omega) (by omega) hI.1
    exfalso
    omega
  | k + 1, i, τ, v, hk, hB, hI, hi => by
    have hbb := hB.1.b
    have hLP := vp_le (vp_told hB.1.1)
    have hm := hmr_le (nP R) (by omega) (nL R) (by omega)
    have hlen := BV_len (by omega) (by omega) hI.1
    have eb : bfs R (k + 1) i v = if i < v.length then bfs R k (i + 1) (vsL R (v.getD i ([], 0)).1 (v.getD i ([], 0)).2 (nL R) v) else v := rfl
    rw [v_Shifting_spread_67, hB.2.1, eb]
    by_cases hq : i < v.length
    · obtain ⟨h1, hd, hr, hI2, hl2⟩ := BI_next hI hq
      have hnm := nmb_lt (R := R) (by omega) (by omega) hr
      obtain ⟨σ1, c1, f1, row1⟩ := srow_fill τ (P := nP R) (L := nL R) (n := nmb R (v.getD i ([], 0)).1) (by omega) hLP (by omega)
      have f1 : Fr snS τ σ1 := f1.up (fun t i j hq => by
        cases hz : srowS t i j
        · rfl
        · unfold srowS at hz
          rw [Bool.and_eq_true] at hz
          unfold snS at hq
          rw [hz.1] at hq
          cases hq)
      have row1 : ∀ j, j < nL R → gI σ1 3329 0 j = nI ((v.getD i ([], 0)).1.getD j 0) := fun j hj => by
        rw [row1 j hj]
        exact congrArg nI ((nmb_e (by omega) (by omega) hr).2 j hj)
      have B1 := BC_sn hB f1
      have hdd : dsn (-1) (v.getD i ([], 0)).1 v = nI (v.getD i ([], 0)).2 := dsn_at hI.1.2.1 (vs_mem hq)
      obtain ⟨σ2, c2, f2, B2⟩ := k_next14 hr (d := (v.getD i ([], 0)).2) (by omega) (v := v) (nL R) 0 σ1 (by omega) B1 h1 row1
      obtain ⟨σ3, c3, f3, B3⟩ := k_bfs67 k (i + 1) σ2 _ (by omega) B2 hI2 (by omega)
      have cN : Cc 92 0 [vR 64 0] σ1 = some (none, σ2) := by
        rw [c_Shifting_visitNeighbours, k_distS B1 hr row1, cI_s, hdd, k_takenS B1.1 row1 (fun j hj => rws_6 (by omega) hr hj), cI_s, nI_1]
        exact c2
      rw [if_pos (nI_lt hq (by omega)), if_pos hq, if_pos (lt720 (by omega)), ix_nI (by omega) (by omega), hB.2.2.2.1 i hq, hB.1.prP.1, hB.1.prL.1, c1, cV_s, cN, cV_s, nI_1]
      exact ⟨σ3, c3, ((sn_sx f1).tr f2).tr f3, B3⟩
    · rw [if_neg (nI_nlt (by omega) (by omega)), if_neg hq]
      exact ⟨τ, rfl, Fr.rf, hB⟩
