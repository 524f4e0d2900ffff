/-! SHIFTS: THE CLASS visits a row -/
def nmb (R : RF) (r : List Nat) : Nat := nmr (nP R) (fun i => r.getD i 0) (nL R)
theorem nmb_e {P L : Nat} (hP : P < 7) (hL : L < P + 1) {r : List Nat} (h : r ∈ rws P L 0) : nmr P (fun i => r.getD i 0) L < hmr P L ∧ ∀ i, i < L → vF P (dgt P L (nmr P (fun i => r.getD i 0) L)) i = r.getD i 0 := by
  obtain ⟨j, hj, ej⟩ := List.getElem_of_mem h
  have h1 := nmr_n P hP L hL
  have h2 := rws_n P hP L hL
  have hlen : (rws P L 0).length = hmr P L := by rw [← h2, List.length_map, List.length_range]
  have e1 : nmr P (fun i => r.getD i 0) L = j := by
    have e := congrArg (fun l => l[j]?) h1
    have e : ((rws P L 0).map (fun r => nmr P (fun i => r.getD i 0) L))[j]? = (List.range (hmr P L))[j]? := e
    rw [List.getElem?_map, List.getElem?_eq_getElem hj, ej, List.getElem?_range (by omega)] at e
    exact Option.some.inj e
  have e2 : (List.range L).map (vF P (dgt P L j)) = r := by
    have e := congrArg (fun l => l[j]?) h2
    have e : ((List.range (hmr P L)).map (fun n => (List.range L).map (vF P (dgt P L n))))[j]? = (rws P L 0)[j]? := e
    rw [List.getElem?_map, List.getElem?_range (by omega), List.getElem?_eq_getElem hj, ej] at e
    exact Option.some.inj e
  rw [e1]
  refine ⟨by omega, fun i hi => ?_⟩
  rw [← e2, getD_map hi]
theorem nmb_inj {R : RF} (hP : nP R < 7) (hL : nL R < nP R + 1) {r r' : List Nat} (h : r ∈ rws (nP R) (nL R) 0) (h' : r' ∈ rws (nP R) (nL R) 0) (e : nmb R r = nmb R r') : r = r' := by
  have l1 := rws_len _ _ _ r h
  have l2 := rws_len _ _ _ r' h'
  have g1 := (nmb_e hP hL h).2
  have g2 := (nmb_e hP hL h').2
  refine List.ext_getElem (by omega) (fun i h1 h2 => ?_)
  have q1 := g1 i (by omega)
  have q2 := g2 i (by omega)
  unfold nmb at e
  rw [e, q2] at q1
  rw [getD_el h1, getD_el h2] at q1
  exact q1.symm
def BC (σ : St) (R : RF) (v : VS) : Prop := K0 σ R ∧ gI σ 64 0 5 = nI v.length ∧ gI σ 64 0 6 = nI (lsd v) ∧ (∀ k, k < v.length → gI σ 368889 0 k = nI (nmb R (v.getD k ([], 0)).1)) ∧ (∀ r, r ∈ rws (nP R) (nL R) 0 → gI σ 368881 0 (nmb R r) = dsn (-1) r v) ∧ ∀ p, p < 6 → gI σ 3337 0 p = nI (bn (wayB R p) (nP R))
def sxS (t _i _j : Nat) : Bool := Nat.beq t 3329 || Nat.beq t 368881 || Nat.beq t 368889 || Nat.beq t 3337 || Nat.beq t 64
theorem sx_sc (t i j : Nat) (h : sxS t i j = true) : scC t i j = true := by
  unfold sxS at h
  simp only [Bool.or_eq_true] at h
  rcases h with (((h | h) | h) | h) | h <;> (rw [Nat.eq_of_beq_eq_true h]; rfl)
theorem sx_up {σ σ' : St} (h : Fr sxS σ σ') : Fr scC σ σ' := h.up (fun t i j hq => by
  cases hz : sxS t i j
  · rfl
  · rw [sx_sc t i j hz] at hq
    cases hq)
theorem K0_sc {σ σ' : St} {R : RF} (h : K0 σ R) (hf : Fr scC σ σ') : K0 σ' R := ⟨h.1, HC_sc h.2 (by omega) hf⟩
theorem sn_sx {σ σ' : St} (h : Fr snS σ σ') : Fr sxS σ σ' := h.up (fun t i j hq => by
  cases hz : snS t i j
  · rfl
  · rw [Nat.eq_of_beq_eq_true hz] at hq
    cases hq)
theorem BC_sn {σ σ' : St} {R : RF} {v : VS} (h : BC σ R v) (hf : Fr snS σ σ') : BC σ' R v := ⟨K0_sc h.1 (sn_sc hf), (hf.i rfl).trans h.2.1, (hf.i rfl).trans h.2.2.1, fun k hk => (hf.i rfl).trans (h.2.2.2.1 k hk), fun r hr => (hf.i rfl).trans (h.2.2.2.2.1 r hr), fun p hp => (hf.i rfl).trans (h.2.2.2.2.2 p hp)⟩
theorem lsd_app (v : VS) (r : List Nat) (d : Nat) : lsd (v ++ [(r, d)]) = d := by
  unfold lsd
  simp [List.getD]
/-- the number of the row that stands in srow -/
theorem k_numS {σ : St} {R : RF} (h : K0 σ R) {r : List Nat} (hr : r ∈ rws (nP R) (nL R) 0) (hrow : ∀ i, i < nL R → gI σ 3329 0 i = nI (r.getD i 0)) : Cc 202 0 [vR 3329 0, vI (gI σ 32 0 2), vI (gI σ 32 4 2)] σ = some (some (vI (nI (nmb R r))), σ) := by
  have hbb := h.b
  have hLP := vp_le (vp_told h.1)
  rw [h.prP.1, h.prL.1]
  exact k_numOf (by omega) hLP hrow (fun i hi => rws_6 (by omega) hr hi)
theorem nmb_lt {R : RF} (hP : nP R < 7) (hL : nL R < nP R + 1) {r : List Nat} (h : r ∈ rws (nP R) (nL R) 0) : nmb R r < 720 := by
  have h1 := (nmb_e hP hL h).1
  have h2 := hmr_le (nP R) hP (nL R) hL
  unfold nmb
  omega
theorem lt720 {n : Nat} (h : n < 720) : nI n < (720 : Int32) := nI_lt (b := 720) h (by omega)
theorem k_visit {σ : St} {R : RF} {v : VS} {c : Nat} (h : BC σ R v) (hv : BV R v c) (hc : c < 100000) {r : List Nat} (hr : r ∈ rws (nP R) (nL R) 0) (hrow : ∀ i, i < nL R → gI σ 3329 0 i = nI (r.getD i 0)) : ∃ σ', Cc 94 0 [vR 64 0, vI (nI c)] σ = some (none, σ') ∧ Fr sxS σ σ' ∧ BC σ' R (vst v r c) ∧ ∀ i, gI σ' 3329 0 i = gI σ 3329 0 i := by
  obtain ⟨h0, h5, h6, hq, hd, hn⟩ := h
  have hbb := h0.b
  have hLP := vp_le (vp_told h0.1)
  have hlt := nmb_lt (R := R) (by omega) (by omega) hr
  have hvst : vst v r c = cond (v.any (fun x => decide (x.1 = r))) v (v ++ [(r, c)]) := rfl
  rw [c_Shifting_visit, k_numS h0 hr hrow, cI_s, if_neg (nI_pos (by omega)), if_pos (lt720 hlt), ix_nI hlt (by omega), hd r hr, h5]
  cases hb : v.any (fun x => decide (x.1 = r))
  · have hbv := BV_len (by omega) (by omega) (BV_vst hv hr)
    have hm := hmr_le (nP R) (by omega) (nL R) (by omega)
    rw [hvst, hb, cond_false, List.length_append] at hbv
    have hbv : v.length + 1 ≤ hmr (nP R) (nL R) := hbv
    have e6 : (if gI (sI σ 368881 0 (nmb R r) (nI c)) 64 0 6 < nI c then nI c else gI (sI σ 368881 0 (nmb R r) (nI c)) 64 0 6) = nI c := by
      rw [gI_sIn (by decide), h6]
      have hle : lsd v ≤ c := by
        unfold lsd
        by_cases hz : v.length - 1 < v.length
        · exact (hv.1 _ (vs_mem hz)).2
        · have : v = [] := List.eq_nil_of_length_eq_zero (by omega)
          subst this
          exact Nat.zero_le _
      by_cases hlc : lsd v < c
      · rw [if_pos (nI_lt hlc (by omega))]
      · rw [if_neg (nI_nlt (by omega) (by omega)), show lsd v = c by omega]
    rw [dsn_no hb, if_pos rfl, if_pos (lt720 (by omega)), ix_nI hlt (by omega), e6, gI_sIj (by decide), gI_sIn (by decide), h5, ix_nI (show v.length < 720 by omega) (by omega), gI_sIn (by decide), gI_sIj (by decide), gI_sIn (by decide), h5, nI_1, hvst, hb, cond_false]
    have hF2 : Fr sxS σ (sI (sI (sI (sI σ 368881 0 (nmb R r) (nI c)) 64 0 6 (nI c)) 368889 0 v.length (nI (nmb R r))) 64 0 5 (nI (v.length + 1))) := (((Fr.rf.sI rfl).sI rfl).sI rfl).sI rfl
    refine ⟨_, rfl, hF2, ⟨K0_sc h0 (sx_up hF2), ?_, ?_, fun k hk => ?_, fun x hx => ?_, fun p hp => ?_⟩, fun i => ?_⟩
    · rw [gI_sIs, List.length_append]; rfl
    · rw [gI_sIj (by decide), gI_sIn (by decide), gI_sIs, lsd_app]
    · rw [List.length_append] at hk
      have hk : k < v.length + 1 := hk
      rw [gI_sIn (by decide)]
      by_cases hkl : k = v.length
      · rw [hkl, gI_sIs]
        simp [List.getD]
      · rw [gI_sIj hkl, gI_sIn (by decide), gI_sIn (by decide), hq k (by omega)]
        simp [List.getD, List.getElem?_append_left (show k < v.length by omega)]
    · rw [gI_sIn (by decide), gI_sIn (by decide), gI_sIn (by decide), dsn_app hb]
      by_cases hxr : x = r
      · rw [if_pos hxr, hxr, gI_sIs]
      · rw [if_neg hxr, gI_sIj (fun z => hxr (nmb_inj (by omega) (by omega) hx hr z))]
        exact hd x hx
    · rw [gI_sIn (by decide), gI_sIn (by decide), gI_sIn (by decide), gI_sIn (by decide)]
      exact hn p hp
    · rw [gI_sIn (by decide), gI_sIn (by decide), gI_sIn (by decide), gI_sIn (by decide)]
  · obtain ⟨x, hx, _, e1⟩ := dsn_yes (e := -1) hb
    have hxc := (hv.1 x hx).2
    rw [e1, if_neg (nn1 (by omega)), hvst, hb, cond_true]
    exact ⟨σ, rfl, Fr.rf, ⟨h0, h5, h6, hq, hd, hn⟩, fun _ => rfl⟩
