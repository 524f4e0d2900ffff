/-! SHIFTS: THE REFERENCE visits what is next to a row -/
theorem dsn_at {e : Int32} : ∀ {v : VS} {x : List Nat × Nat}, (v.map (fun x => x.1)).Nodup → x ∈ v → dsn e x.1 v = nI x.2
  | y :: v, x, hn, hx => by
    rw [List.map_cons] at hn
    have hn := List.nodup_cons.mp hn
    show (if y.1 = x.1 then nI y.2 else dsn e x.1 v) = nI x.2
    cases hx with
    | head => rw [if_pos rfl]
    | tail _ h3 =>
      rw [if_neg (fun z => hn.1 (by rw [z]; exact List.mem_map.mpr ⟨x, h3, rfl⟩))]
      exact dsn_at hn.2 h3
/-- the reference at row i of the queue -/
def SMI (σ : St) (R : RF) (v : VS) (i : Nat) (r : List Nat) (d : Nat) : Prop := BM σ R v ∧ BV R v (d + 1) ∧ (∃ w1 w2, v = w1 ++ (r, d) :: w2 ∧ w1.length = i) ∧ ∀ j, j < nL R → gI σ 3529 0 j = nI (r.getD j 0)
theorem s_next74 {R : RF} {i : Nat} {r : List Nat} {d l : Nat} (hd : d + 1 < 100000) (hl : l < nL R) (l1 : Int32) {v : VS} : ∀ (k p : Nat) (τ : St), p + k = nP R → SMI τ R (vsP R r d l p v) i r d → ∃ σ', Vv 317 0 74 [some (vR 96 0), some (vI l1), some (vI (nI i)), some (vI (nI l)), some (vI (nI p))] [] τ = Vv 317 0 63 [some (vR 96 0), some (vI l1), some (vI (nI i)), some (vI (nI (l + 1))), none] [] σ' ∧ Fr shS τ σ' ∧ SMI σ' R (vsP R r d l (nP R) v) i r d
  | 0, p, τ, hp, h => by
    have hbb := h.1.1.b
    have hp : p = nP R := by omega
    subst hp
    exact ⟨τ, by rw [v_M_laysShifts_74, cI_P h.1.1, if_neg (nI_nlt (Nat.le_refl _) (by omega)), nI_1], Fr.rf, h⟩
  | k + 1, p, τ, hp, h => by
    obtain ⟨hB, hV, ⟨w1, w2, ew, hw⟩, hrow⟩ := h
    have hbb := hB.1.b
    have hLP := vp_le (vp_told hB.1.1)
    have hm := hmr_le (nP R) (by omega) (nL R) (by omega)
    have hlen := BV_len (by omega) (by omega) hV
    have hmem : (r, d) ∈ vsP R r d l p v := by rw [ew]; exact List.mem_append_right _ List.mem_cons_self
    have hr : r ∈ rws (nP R) (nL R) 0 := (hV.1 _ hmem).1
    have hil : i < (vsP R r d l p v).length := by rw [ew, List.length_append, List.length_cons]; omega
    have hget : (vsP R r d l p v).getD i ([], 0) = (r, d) := by
      rw [ew, ← hw]
      simp [List.getD]
    have hqi : gI τ 369113 0 i = nI (cdr R r) := by rw [hB.2.2.1 i hil, hget]
    have hsi : gI τ 23888337 0 (cdr R r) = nI d := (hB.2.2.2 r hr).trans (dsn_at hV.2.1 hmem)
    have hlr := rws_6 (i := l) (by omega) hr hl
    have es : vsP R r d l (p + 1) v = cond (mayB R r l p) (vst (vsP R r d l p v) (r.set l p) (d + 1)) (vsP R r d l p v) := rfl
    have em : mayB R r l p = (wayB R (r.getD l 0) p && !Nat.testBit (nmt (fun i => r.getD i 0) (nL R)) p) := rfl
    rw [v_M_laysShifts_74, cI_P hB.1, if_pos (nI_lt (by omega) (by omega)), ix_nI (by omega) (by omega), hrow l hl, s_isWay hB.1 (by omega) (by omega), cI_s, tv_ite, s_isEmpty hB.1 hrow (fun j hj => rws_6 (by omega) hr hj) (show p < 6 by omega), cI_s, tv_ite, ix_nI (by omega) (by omega), hqi, ix_nI (cdr_lt (by omega) (by omega) hr) (by omega), hsi, nI_1, nI_1, cond_and, ← em]
    cases hb : mayB R r l p
    · rw [hb, cond_false] at es
      rw [cond_false]
      exact s_next74 hd hl l1 k (p + 1) τ (by omega) (by rw [es]; exact ⟨hB, hV, ⟨w1, w2, ew, hw⟩, hrow⟩)
    · rw [hb, cond_true] at es
      have hset := rws_set hr (show p < nP R by omega) (may_not (rws_len _ _ _ _ hr) hb) l
      obtain ⟨σ1, c1, f1, B1, row1⟩ := s_shiftsTo hB hV hd hr hrow hl hset
      obtain ⟨w3, e3⟩ := vst_pre (vsP R r d l p v) (r.set l p) (d + 1)
      obtain ⟨σ2, c2, f2, B2⟩ := s_next74 hd hl l1 k (p + 1) σ1 (by omega) (by
        rw [es]
        exact ⟨B1, BV_vst hV hset, ⟨w1, w2 ++ w3, by rw [e3, ew, List.append_assoc]; rfl, hw⟩, row1⟩)
      refine ⟨σ2, ?_, f1.tr f2, B2⟩
      rw [cond_true, c1, cV_s]
      exact c2
