/-! SHIFTS: THE REFERENCE visits a row -/
def cdr (R : RF) (r : List Nat) : Nat := cde (fun i => r.getD i 0) (nL R)
def BM (σ : St) (R : RF) (v : VS) : Prop := H0 σ R ∧ gI σ 96 0 40 = nI v.length ∧ (∀ k, k < v.length → gI σ 369113 0 k = nI (cdr R (v.getD k ([], 0)).1)) ∧ ∀ r, r ∈ rws (nP R) (nL R) 0 → gI σ 23888337 0 (cdr R r) = dsn 100000 r v
theorem rws_6 {P L : Nat} (hP : P ≤ 6) {r : List Nat} (h : r ∈ rws P L 0) {i : Nat} (hi : i < L) : r.getD i 0 < 6 := by
  have h1 := rws_len P L 0 r h
  have h2 := rws_lt P L 0 r h _ (getD_in (show i < r.length by omega))
  omega
theorem cdr_lt {R : RF} (hP : nP R ≤ 6) (hL : nL R ≤ 6) {r : List Nat} (h : r ∈ rws (nP R) (nL R) 0) : cdr R r < 46656 := by
  have h1 := cde_lt (f := fun i => r.getD i 0) (n := nL R) (fun i hi => rws_6 hP h hi)
  have h2 : 6 ^ nL R ≤ 6 ^ 6 := Nat.pow_le_pow_right (by omega) hL
  unfold cdr
  omega
theorem cdr_inj {R : RF} (hP : nP R ≤ 6) {r r' : List Nat} (h : r ∈ rws (nP R) (nL R) 0) (h' : r' ∈ rws (nP R) (nL R) 0) (e : cdr R r = cdr R r') : r = r' := by
  have l1 := rws_len _ _ _ r h
  have l2 := rws_len _ _ _ r' h'
  have q := cde_inj (n := nL R) (f := fun i => r.getD i 0) (g := fun i => r'.getD i 0) (fun i hi => ⟨rws_6 hP h hi, rws_6 hP h' hi⟩) e
  refine List.ext_getElem (by omega) (fun i h1 h2 => ?_)
  have := q i (by omega)
  rw [getD_el h1, getD_el h2] at this
  exact this
theorem getD_set {r : List Nat} {l p i : Nat} (hl : l < r.length) (hi : i < r.length) : (r.set l p).getD i 0 = if i = l then p else r.getD i 0 := by
  rw [getD_el (show i < (r.set l p).length by rw [List.length_set]; exact hi), getD_el hi, List.getElem_set]
  by_cases h : i = l
  · rw [if_pos h, if_pos h.symm]
  · rw [if_neg h, if_neg (fun z => h z.symm)]
def shS (t _i j : Nat) : Bool := Nat.beq t 3529 || Nat.beq t 23888337 || Nat.beq t 369113 || (Nat.beq t 96 && Nat.beq j 40)
theorem sh_sc (t i j : Nat) (h : shS t i j = true) : scM t i j = true := by
  unfold shS at h
  simp only [Bool.or_eq_true, Bool.and_eq_true] at h
  rcases h with ((h | h) | h) | h
  · rw [Nat.eq_of_beq_eq_true h]; rfl
  · rw [Nat.eq_of_beq_eq_true h]; rfl
  · rw [Nat.eq_of_beq_eq_true h]; rfl
  · rw [Nat.eq_of_beq_eq_true h.1, Nat.eq_of_beq_eq_true h.2]; rfl
theorem s_shiftsTo {σ : St} {R : RF} {v : VS} {c : Nat} (h : BM σ R v) (hv : BV R v c) (hc : c < 100000) {r : List Nat} (hr : r ∈ rws (nP R) (nL R) 0) (hrow : ∀ i, i < nL R → gI σ 3529 0 i = nI (r.getD i 0)) {l p : Nat} (hl : l < nL R) (hr' : r.set l p ∈ rws (nP R) (nL R) 0) : ∃ σ', Cc 318 0 [vR 96 0, vI (nI l), vI (nI p), vI (nI c)] σ = some (none, σ') ∧ Fr shS σ σ' ∧ BM σ' R (vst v (r.set l p) c) ∧ ∀ i, i < nL R → gI σ' 3529 0 i = nI (r.getD i 0) := by
  obtain ⟨h0, h40, hq, hd⟩ := h
  have hbb := h0.b
  have hLP := vp_le (vp_told h0.1)
  have hlen := rws_len _ _ _ r hr
  have hFa : Fr shS σ (sI σ 3529 0 l (nI p)) := Fr.rf.sI rfl
  have hcode : Cc 314 0 [vR 96 0, vR 3529 0] (sI σ 3529 0 l (nI p)) = some (some (vI (nI (cdr R (r.set l p)))), sI σ 3529 0 l (nI p)) := s_codeOf (h0.fr hFa sh_sc) (fun i hi => by
    rw [getD_set (by omega) (by omega)]
    by_cases hil : i = l
    · rw [if_pos hil, hil, gI_sIs]
    · rw [if_neg hil, gI_sIj hil]
      exact hrow i hi)
  have hlt := cdr_lt (R := R) (by omega) (by omega) hr'
  have e0 : gI (sI (sI σ 3529 0 l (nI p)) 3529 0 l (gI σ 3529 0 l)) 23888337 0 (cdr R (r.set l p)) = dsn 100000 (r.set l p) v := by
    rw [gI_sIn (by decide), gI_sIn (by decide)]
    exact hd _ hr'
  have hrest : ∀ i, i < nL R → gI (sI (sI σ 3529 0 l (nI p)) 3529 0 l (gI σ 3529 0 l)) 3529 0 i = nI (r.getD i 0) := fun i hi => by
    by_cases hil : i = l
    · rw [hil, gI_sIs]
      exact hrow l hl
    · rw [gI_sIj hil, gI_sIj hil]
      exact hrow i hi
  rw [c_M_shiftsTo, ix_nI (by omega) (by omega), ix_nI (by omega) (by omega), hcode, cI_s, ix_nI (by omega) (by omega), ix_nI hlt (by omega), e0]
  have hFb : Fr shS σ (sI (sI σ 3529 0 l (nI p)) 3529 0 l (gI σ 3529 0 l)) := hFa.sI rfl
  have hBM : BM (sI (sI σ 3529 0 l (nI p)) 3529 0 l (gI σ 3529 0 l)) R v := ⟨h0.fr hFb sh_sc, by rw [gI_sIn (by decide), gI_sIn (by decide)]; exact h40, fun k hk => by rw [gI_sIn (by decide), gI_sIn (by decide)]; exact hq k hk, fun x hx => by rw [gI_sIn (by decide), gI_sIn (by decide)]; exact hd x hx⟩
  generalize sI (sI σ 3529 0 l (nI p)) 3529 0 l (gI σ 3529 0 l) = σ1 at hFb hBM hrest e0
  have hvst : vst v (r.set l p) c = cond (v.any (fun x => decide (x.1 = r.set l p))) v (v ++ [(r.set l p, c)]) := rfl
  cases hb : v.any (fun x => decide (x.1 = r.set l p))
  · have hbv := BV_len (by omega) (by omega) (BV_vst hv hr')
    have hm := hmr_le (nP R) (by omega) (nL R) (by omega)
    rw [hvst, hb, cond_false, List.length_append] at hbv
    have hbv : v.length + 1 ≤ hmr (nP R) (nL R) := hbv
    rw [dsn_no hb, if_neg (by decide), ix_nI hlt (by omega), gI_sIn (by decide), hBM.2.1, ix_nI (show v.length < 720 by omega) (by omega), gI_sIn (by decide), gI_sIn (by decide), hBM.2.1, nI_1, hvst, hb, cond_false]
    have hF2 : Fr shS σ1 (sI (sI (sI σ1 23888337 0 (cdr R (r.set l p)) (nI c)) 369113 0 v.length (nI (cdr R (r.set l p)))) 96 0 40 (nI (v.length + 1))) := ((Fr.rf.sI rfl).sI rfl).sI rfl
    refine ⟨_, rfl, hFb.tr hF2, ⟨hBM.1.fr hF2 sh_sc, ?_, fun k hk => ?_, fun x hx => ?_⟩, fun i hi => ?_⟩
    · rw [gI_sIs, List.length_append]; rfl
    · rw [List.length_append] at hk
      have hk : k < v.length + 1 := hk
      rw [gI_sIn (by decide)]
      by_cases hkl : k = v.length
      · rw [hkl, gI_sIs]
        simp [List.getD]
      · rw [gI_sIj hkl, gI_sIn (by decide), hBM.2.2.1 k (by omega)]
        simp [List.getD, List.getElem?_append_left (show k < v.length by omega)]
    · rw [gI_sIn (by decide), gI_sIn (by decide), dsn_app hb]
      by_cases hxr : x = r.set l p
      · rw [if_pos hxr, hxr, gI_sIs]
      · rw [if_neg hxr, gI_sIj (fun z => hxr (cdr_inj (by omega) hx hr' z))]
        exact hBM.2.2.2 x hx
    · rw [gI_sIn (by decide), gI_sIn (by decide), gI_sIn (by decide)]
      exact hrest i hi
  · obtain ⟨x, hx, _, e1⟩ := dsn_yes (e := 100000) hb
    have hxc := (hv.1 x hx).2
    rw [e1, if_pos (show nI x.2 < (100000 : Int32) from nI_lt (b := 100000) (by omega) (by omega)), hvst, hb, cond_true]
    exact ⟨_, rfl, hFb, hBM, hrest⟩
