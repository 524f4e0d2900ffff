/-! ROWS: THE REFERENCE -/
/-- the least worth of the first j -/
def mnw (R : RF) (f : Nat → Nat) : Nat → Int32
  | 0 => 100000
  | j + 1 => if mnw R f j < nI (wth R (see R (fal R) (f j))) then mnw R f j else nI (wth R (see R (fal R) (f j)))
def fst2 (R : RF) (f : Nat → Nat) (v : Int32) : Int32 := if mnw R f (nL R) < v then v else mnw R f (nL R)
theorem mnw_c {R : RF} {f g : Nat → Nat} : ∀ {n : Nat}, (∀ i, i < n → f i = g i) → mnw R f n = mnw R g n
  | 0, _ => rfl
  | n + 1, h => by
    show (if mnw R f n < nI (wth R (see R (fal R) (f n))) then mnw R f n else nI (wth R (see R (fal R) (f n)))) = (if mnw R g n < nI (wth R (see R (fal R) (g n))) then mnw R g n else nI (wth R (see R (fal R) (g n))))
    rw [mnw_c (fun i hi => h i (by omega)), h n (by omega)]
theorem fst2_c {R : RF} {f g : Nat → Nat} (h : ∀ i, i < nL R → f i = g i) (v : Int32) : fst2 R f v = fst2 R g v := by
  unfold fst2
  rw [mnw_c h]
/-- the reference behind some rows -/
def TRM (σ : St) (R : RF) (a : RS) (v : Int32) (f : Nat → Nat) (i : Nat) : Prop := H0 σ R ∧ SE σ R (fal R) ∧ gI σ 96 0 33 = a.1 ∧ gI σ 96 0 34 = a.2.1 ∧ gI σ 96 0 35 = v ∧ (a.1 ≠ -1 → ∀ j, j < nL R → gI σ 3521 0 j = nI (a.2.2.getD j 0)) ∧ ∀ j, j < i → gI σ 3529 0 j = nI (f j)
def rqS (t _i j : Nat) : Bool := Nat.beq t 3521 || Nat.beq t 3529 || (Nat.beq t 96 && (Nat.beq j 33 || Nat.beq j 34 || Nat.beq j 35))
theorem rq_sc (t i j : Nat) (h : rqS t i j = true) : scM t i j = true := by
  unfold rqS at h
  simp only [Bool.or_eq_true, Bool.and_eq_true] at h
  rcases h with (h | h) | h
  · rw [Nat.eq_of_beq_eq_true h]; rfl
  · rw [Nat.eq_of_beq_eq_true h]; rfl
  · rw [Nat.eq_of_beq_eq_true h.1]
    rcases h.2 with (h | h) | h <;> (rw [Nat.eq_of_beq_eq_true h]; rfl)
theorem rq_H {σ σ' : St} {R : RF} (h : H0 σ R) (hf : Fr rqS σ σ') : H0 σ' R := h.fr hf rq_sc
theorem rq_E {σ σ' : St} {R : RF} {fl : Nat → Bool} (h : SE σ R fl) (hf : Fr rqS σ σ') : SE σ' R fl := fun p hp => (hf.i rfl).trans (h p hp)
theorem s_row92 {R : RF} {rq : Nat} {f : Nat → Nat} (hL : nL R ≤ 6) (l2 l3 l4 : Int32) : ∀ (k j : Nat) (τ : St), j + k = nL R → (∀ q, q < nL R → gI τ 3529 0 q = nI (f q)) → (∀ q, q < j → gI τ 3521 0 q = nI (f q)) → ∃ τ', Vv 308 (rq + 1) 92 [some (vR 96 0), some (vI (nI (nL R))), some (vI l2), some (vI l3), some (vI l4), some (vI (nI j))] [] τ = Vv 308 (rq + 1) 92 [some (vR 96 0), some (vI (nI (nL R))), some (vI l2), some (vI l3), some (vI l4), some (vI (nI (nL R)))] [] τ' ∧ Fr (fun t _ _ => Nat.beq t 3521) τ τ' ∧ ∀ q, q < nL R → gI τ' 3521 0 q = nI (f q)
  | 0, j, τ, hj, h1, h2 => by
    have hj : j = nL R := by omega
    subst hj
    exact ⟨τ, rfl, Fr.rf, h2⟩
  | k + 1, j, τ, hj, h1, h2 => by
    have hF : Fr (fun t _ _ => Nat.beq t 3521) τ (sI τ 3521 0 j (nI (f j))) := Fr.rf.sI rfl
    obtain ⟨τ', c1, f1, a1⟩ := s_row92 (rq := rq) hL l2 l3 l4 k (j + 1) (sI τ 3521 0 j (nI (f j))) (by omega) (fun q hq => (gI_sIn (by decide)).trans (h1 q hq)) (fun q hq => by
      by_cases hqj : q = j
      · rw [hqj, gI_sIs]
      · rw [gI_sIj hqj]
        exact h2 q (by omega))
    refine ⟨τ', ?_, hF.tr f1, a1⟩
    rw [← c1, v_M_rowsFrom_92, if_pos (nI_lt (by omega) (by omega)), ix_nI (by omega) (by omega), ix_nI (by omega) (by omega), h1 j (by omega), nI_1]
theorem s_leaf {σ : St} {R : RF} {rq : Nat} {a : RS} {v : Int32} {f : Nat → Nat} (l2 : Int32) (h : TRM σ R a v f (nL R)) (hf : ∀ j, j < nL R → f j < nP R) : ∃ σ', Vv 308 (rq + 1) 17 [some (vR 96 0), some (vI (nI (nL R))), some (vI l2), some (vI 0), some (vI 100000), some (vI 0)] [] σ = some (none, σ') ∧ Fr rqS σ σ' ∧ TRM σ' R (rst R f a) (fst2 R f v) f (nL R) := by
  have hbb := h.1.b
  obtain ⟨h0, hE, h33, h34, h35, hro, hno⟩ := h
  have hl := lpU (V := fun j => Vv 308 (rq + 1) 17 [some (vR 96 0), some (vI (nI (nL R))), some (vI l2), some (vI (nI (cn (fun l => see R (fal R) (f l) (lh R l)) j))), some (vI (mnw R f j)), some (vI (nI j))] [] σ) (n := nL R) (fun j hj => by
    show Vv _ _ _ _ _ _ = Vv _ _ _ _ _ _
    have e : cn (fun l => see R (fal R) (f l) (lh R l)) (j + 1) = cn (fun l => see R (fal R) (f l) (lh R l)) j + cond (see R (fal R) (f j) (lh R j)) 1 0 := rfl
    have em : mnw R f (j + 1) = if mnw R f j < nI (wth R (see R (fal R) (f j))) then mnw R f j else nI (wth R (see R (fal R) (f j))) := rfl
    rw [v_M_rowsFrom_17, if_pos (nI_lt hj (by omega)), ix_nI (by omega) (by omega), hno j hj, s_isGlad h0 hE hj (hf j hj), cI_s, tv_ite, ix_nI (by omega) (by omega), ix_nI (by omega) (by omega), hno j hj, s_placeW h0 hE (hf j hj), cI_s, cI_s, s_lessOf, cI_s, cI_s, ← em, e, nI_1, nI_1, Int32.add_zero]
    cases see R (fal R) (f j) (lh R j)
    · rw [cond_false, cond_false]; rfl
    · rw [cond_true, cond_true])
  have hl : Vv 308 (rq + 1) 17 [some (vR 96 0), some (vI (nI (nL R))), some (vI l2), some (vI 0), some (vI 100000), some (vI 0)] [] σ = Vv 308 (rq + 1) 17 [some (vR 96 0), some (vI (nI (nL R))), some (vI l2), some (vI (nI (gl R f))), some (vI (mnw R f (nL R))), some (vI (nI (nL R)))] [] σ := hl
  rw [hl, v_M_rowsFrom_17, if_neg (nI_nlt (Nat.le_refl _) (by omega)), h33, h34]
  unfold rst
  by_cases q1 : nI (gl R f) ≤ a.1
  · rw [if_pos q1, if_pos q1]
    have go : ∀ c : Int32, ∃ σ', cI (Cc 255 0 [vI (gI (sI σ 96 0 34 c) 96 0 35), vI (mnw R f (nL R))] (sI σ 96 0 34 c)) (fun x15 σ14 => some (none, sI σ14 96 0 35 x15)) = some (none, σ') ∧ Fr rqS σ σ' ∧ TRM σ' R (a.1, c, a.2.2) (fst2 R f v) f (nL R) := fun c => by
      rw [gI_sIj (by decide), h35, s_moreOf, cI_s]
      have hF : Fr rqS σ (sI (sI σ 96 0 34 c) 96 0 35 (fst2 R f v)) := (Fr.rf.sI rfl).sI rfl
      refine ⟨_, rfl, hF, rq_H h0 hF, rq_E hE hF, ?_, ?_, gI_sIs _ _ _ _ _, fun z j hj => ?_, fun j hj => ?_⟩
      · rw [gI_sIj (by decide), gI_sIj (by decide)]; exact h33
      · rw [gI_sIj (by decide), gI_sIs]
      · rw [gI_sIn (by decide), gI_sIn (by decide)]; exact hro z j hj
      · rw [gI_sIn (by decide), gI_sIn (by decide)]; exact hno j hj
    by_cases q2 : nI (gl R f) = a.1
    · rw [if_pos q2, if_pos q2]
      exact go (a.2.1 + 1)
    · rw [if_neg q2, if_neg q2, Int32.add_zero]
      exact go a.2.1
  · rw [if_neg q1, if_neg q1]
    have hF1 : Fr rqS σ (sI (sI σ 96 0 33 (nI (gl R f))) 96 0 34 0) := (Fr.rf.sI rfl).sI rfl
    obtain ⟨τ, c1, f1, a1⟩ := s_row92 (R := R) (rq := rq) (f := f) (by omega) l2 (nI (gl R f)) (mnw R f (nL R)) (nL R) 0 (sI (sI σ 96 0 33 (nI (gl R f))) 96 0 34 0) (by omega) (fun q hq => by rw [gI_sIn (by decide), gI_sIn (by decide)]; exact hno q hq) (fun q hq => by omega)
    have f1' : Fr rqS (sI (sI σ 96 0 33 (nI (gl R f))) 96 0 34 0) τ := f1.up (fun t i j hq => by
      unfold rqS at hq
      simp only [Bool.or_eq_false_iff] at hq
      exact hq.1.1)
    have e33 : gI τ 96 0 33 = nI (gl R f) := by rw [f1.i rfl, gI_sIj (by decide), gI_sIs]
    have e34 : gI τ 96 0 34 = 0 := by rw [f1.i rfl, gI_sIs]
    have e35 : gI τ 96 0 35 = v := by rw [f1.i rfl, gI_sIj (by decide), gI_sIj (by decide)]; exact h35
    have hF : Fr rqS σ (sI (sI τ 96 0 34 (0 + 1)) 96 0 35 (fst2 R f v)) := ((hF1.tr f1').sI rfl).sI rfl
    refine ⟨sI (sI τ 96 0 34 (0 + 1)) 96 0 35 (fst2 R f v), Eq.trans c1 ?_, hF, rq_H h0 hF, rq_E hE hF, ?_, ?_, gI_sIs _ _ _ _ _, fun z j hj => ?_, fun j hj => ?_⟩
    · rw [v_M_rowsFrom_92, if_neg (nI_nlt (Nat.le_refl _) (by omega)), e33, if_pos rfl, e34, gI_sIj (by decide), e35, s_moreOf, cI_s]
      rfl
    · rw [gI_sIj (by decide), gI_sIj (by decide)]; exact e33
    · rw [gI_sIj (by decide), gI_sIs]; rfl
    · show _ = nI (((List.range (nL R)).map f).getD j 0)
      rw [gI_sIn (by decide), gI_sIn (by decide), a1 j hj, getD_map hj]
    · rw [gI_sIn (by decide), gI_sIn (by decide), f1.i rfl, gI_sIn (by decide), gI_sIn (by decide)]
      exact hno j hj
/-- a row that begins as f does -/
def ex2 (f : Nat → Nat) (i : Nat) (r : List Nat) : Nat → Nat := fun j => if j < i then f j else r.getD (j - i) 0
def uf (f : Nat → Nat) (i p : Nat) : Nat → Nat := fun j => if j = i then p else f j
theorem ex2_u (f : Nat → Nat) (i p : Nat) (r : List Nat) : ex2 (uf f i p) (i + 1) r = ex2 f i (p :: r) := by
  funext j
  unfold ex2 uf
  by_cases h1 : j < i
  · rw [if_pos (by omega), if_neg (by omega), if_pos h1]
  · by_cases h2 : j = i
    · rw [if_pos (by omega), if_pos h2, if_neg h1, h2, Nat.sub_self]
      rfl
    · rw [if_neg (by omega), if_neg h1, show j - i = (j - (i + 1)) + 1 by omega]
      rfl
def rf2 (R : RF) (f : Nat → Nat) (i : Nat) (l : List (List Nat)) (a : RS) : RS := l.foldl (fun a r => rst R (ex2 f i r) a) a
def rv2 (R : RF) (f : Nat → Nat) (i : Nat) (l : List (List Nat)) (v : Int32) : Int32 := l.foldl (fun v r => fst2 R (ex2 f i r) v) v
theorem rf2_m (R : RF) (f : Nat → Nat) (i p : Nat) (l : List (List Nat)) (a : RS) : rf2 R (uf f i p) (i + 1) l a = rf2 R f i (l.map (fun r => p :: r)) a := by
  unfold rf2
  rw [List.foldl_map]
  simp only [ex2_u]
theorem rv2_m (R : RF) (f : Nat → Nat) (i p : Nat) (l : List (List Nat)) (v : Int32) : rv2 R (uf f i p) (i + 1) l v = rv2 R f i (l.map (fun r => p :: r)) v := by
  unfold rv2
  rw [List.foldl_map]
  simp only [ex2_u]
theorem rf2_a (R : RF) (f : Nat → Nat) (i : Nat) (l l' : List (List Nat)) (a : RS) : rf2 R f i (l ++ l') a = rf2 R f i l' (rf2 R f i l a) := List.foldl_append
theorem rv2_a (R : RF) (f : Nat → Nat) (i : Nat) (l l' : List (List Nat)) (v : Int32) : rv2 R f i (l ++ l') v = rv2 R f i l' (rv2 R f i l v) := List.foldl_append
/-- the rows that go on with one of the first p -/
def rwp (P k u p : Nat) : List (List Nat) := (List.range p).flatMap (fun p => cond (Nat.testBit u p) [] ((rws P k (u ||| 2 ^ p)).map (fun r => p :: r)))
theorem rwp_s (P k u p : Nat) : rwp P k u (p + 1) = rwp P k u p ++ cond (Nat.testBit u p) [] ((rws P k (u ||| 2 ^ p)).map (fun r => p :: r)) := by
  unfold rwp
  rw [List.range_succ, List.flatMap_append]
  simp
theorem s_rows {R : RF} : ∀ (k i rq u : Nat) (f : Nat → Nat) (σ : St) (a : RS) (v : Int32), i + k = nL R → k < rq → u < 2 ^ 7 → (∀ j, j < i → f j < nP R) → TRM σ R a v f i → ∃ σ', Cc 308 rq [vR 96 0, vI (nI i), vI (nI u)] σ = some (none, σ') ∧ Fr rqS σ σ' ∧ TRM σ' R (rf2 R f i (rws (nP R) k u) a) (rv2 R f i (rws (nP R) k u) v) f i
  | _, _, 0, _, _, _, _, _, _, hr, _, _, _ => absurd hr (by omega)
  | 0, i, rq + 1, u, f, σ, a, v, hi, hr, hu, hf, h => by
    have hbb := h.1.b
    have hi : i = nL R := by omega
    subst hi
    obtain ⟨σ', c1, f1, t1⟩ := s_leaf (rq := rq) (nI u) h hf
    have hc : ∀ j, j < nL R → f j = ex2 f (nL R) [] j := fun j hj => by
      unfold ex2
      rw [if_pos hj]
    have e1 : rf2 R f (nL R) (rws (nP R) 0 u) a = rst R f a := (rst_c hc a).symm
    have e2 : rv2 R f (nL R) (rws (nP R) 0 u) v = fst2 R f v := (fst2_c hc v).symm
    rw [e1, e2]
    refine ⟨σ', ?_, f1, t1⟩
    rw [c_M_rowsFrom, cI_L h.1, if_pos rfl]
    exact c1
  | k + 1, i, rq + 1, u, f, σ, a, v, hi, hr, hu, hf, h => by
    have hbb := h.1.b
    have key : ∀ (kk p : Nat) (τ : St), p + kk = nP R → Fr rqS σ τ → TRM τ R (rf2 R f i (rwp (nP R) k u p) a) (rv2 R f i (rwp (nP R) k u p) v) f i → ∃ σ', Vv 308 (rq + 1) 156 [some (vR 96 0), some (vI (nI i)), some (vI (nI u)), some (vI (nI p)), none, none] [] τ = some (none, σ') ∧ Fr rqS σ σ' ∧ TRM σ' R (rf2 R f i (rwp (nP R) k u (nP R)) a) (rv2 R f i (rwp (nP R) k u (nP R)) v) f i := by
      intro kk
      induction kk with
      | zero =>
        intro p τ hp hF ht
        have hp : p = nP R := by omega
        subst hp
        exact ⟨τ, by rw [v_M_rowsFrom_156, cI_P ht.1, if_neg (nI_nlt (Nat.le_refl _) (by omega))], hF, ht⟩
      | succ kk ih =>
        intro p τ hp hF ht
        have hs := rwp_s (nP R) k u p
        cases hb : Nat.testBit u p
        · rw [hb, cond_false] at hs
          have hF2 : Fr rqS τ (sI τ 3529 0 i (nI p)) := Fr.rf.sI rfl
          obtain ⟨t0, tE, t33, t34, t35, tro, tno⟩ := ht
          have ht2 : TRM (sI τ 3529 0 i (nI p)) R (rf2 R f i (rwp (nP R) k u p) a) (rv2 R f i (rwp (nP R) k u p) v) (uf f i p) (i + 1) := ⟨rq_H t0 hF2, rq_E tE hF2, (gI_sIn (by decide)).trans t33, (gI_sIn (by decide)).trans t34, (gI_sIn (by decide)).trans t35, fun z j hj => (gI_sIn (by decide)).trans (tro z j hj), fun j hj => by
            unfold uf
            by_cases hji : j = i
            · rw [if_pos hji, hji, gI_sIs]
            · rw [if_neg hji, gI_sIj hji]
              exact tno j (by omega)⟩
          have hu2 : u ||| 2 ^ p < 2 ^ 7 := Nat.or_lt_two_pow hu (Nat.pow_lt_pow_right (by omega) (by omega))
          obtain ⟨σ6, c6, f6, t6⟩ := s_rows k (i + 1) rq (u ||| 2 ^ p) (uf f i p) _ _ _ (by omega) (by omega) hu2 (fun j hj => by
            unfold uf
            by_cases hji : j = i
            · rw [if_pos hji]; omega
            · rw [if_neg hji]
              exact hf j (by omega)) ht2
          rw [rf2_m, rv2_m, ← rf2_a, ← rv2_a, ← hs] at t6
          have t7 : TRM σ6 R (rf2 R f i (rwp (nP R) k u (p + 1)) a) (rv2 R f i (rwp (nP R) k u (p + 1)) v) f i := ⟨t6.1, t6.2.1, t6.2.2.1, t6.2.2.2.1, t6.2.2.2.2.1, t6.2.2.2.2.2.1, fun j hj => by
            have := t6.2.2.2.2.2.2 j (by omega)
            rw [this]
            unfold uf
            rw [if_neg (by omega)]⟩
          obtain ⟨σ', c7, f7, t8⟩ := ih (p + 1) σ6 (by omega) ((hF.tr hF2).tr f6) t7
          refine ⟨σ', ?_, f7, t8⟩
          rw [v_M_rowsFrom_156, cI_P t0, if_pos (nI_lt (show p < nP R by omega) (by omega)), s_isBit, bit_n (by omega) (by omega), hb, cI_s, tv_ite, cond_false, ix_nI (by omega) (by omega), shl_1 _ (by omega), nI_or, nI_1, c6, cV_s, nI_1]
          exact c7
        · rw [hb, cond_true, List.append_nil] at hs
          rw [← hs] at ht
          obtain ⟨σ', c7, f7, t8⟩ := ih (p + 1) τ (by omega) hF ht
          refine ⟨σ', ?_, f7, t8⟩
          rw [v_M_rowsFrom_156, cI_P ht.1, if_pos (nI_lt (show p < nP R by omega) (by omega)), s_isBit, bit_n (by omega) (by omega), hb, cI_s, tv_ite, cond_true, nI_1]
          exact c7
    obtain ⟨σ', c1, f1, t1⟩ := key (nP R) 0 σ (by omega) Fr.rf h
    refine ⟨σ', ?_, f1, t1⟩
    rw [c_M_rowsFrom, cI_L h.1, if_neg (fun z => absurd ((nI_eq (by omega) (by omega)).mp z) (by omega))]
    exact c1
def FVR (R : RF) : Int32 := rv2 R (fun _ => 0) 0 (rws (nP R) (nL R) 0) (-1)
theorem ALR_2 (R : RF) : rf2 R (fun _ => 0) 0 (rws (nP R) (nL R) 0) (-1, 0, []) = ALR R := by
  have e : ∀ r : List Nat, ex2 (fun _ => 0) 0 r = fun j => r.getD j 0 := fun r => by
    funext j
    unfold ex2
    rw [if_neg (by omega), Nat.sub_zero]
  unfold rf2 ALR rfd
  simp only [e]
theorem s_laysRows {σ : St} {R : RF} (h : H0 σ R) : ∃ σ', Cc 309 0 [vR 96 0] σ = some (none, σ') ∧ Fr scM σ σ' ∧ TRM σ' R (ALR R) (FVR R) (fun _ => 0) 0 := by
  have hbb := h.b
  obtain ⟨σ1, c1, f1, h1, w1, m1, _, t1, s1⟩ := s_lays h
  have hF : Fr rqS σ1 (sI (sI (sI σ1 96 0 33 (-1)) 96 0 34 0) 96 0 35 (-1)) := ((Fr.rf.sI rfl).sI rfl).sI rfl
  obtain ⟨σ2, c2, f2, t2⟩ := s_rows (R := R) (nL R) 0 12 0 (fun _ => 0) _ (-1, 0, []) (-1) (by omega) (by omega) (by decide) (fun j hj => by omega) ⟨rq_H h1 hF, rq_E s1 hF, by rw [gI_sIj (by decide), gI_sIj (by decide), gI_sIs], by rw [gI_sIj (by decide), gI_sIs], gI_sIs _ _ _ _ _, fun z => absurd rfl z, fun j hj => by omega⟩
  rw [ALR_2] at t2
  refine ⟨σ2, ?_, f1.tr ((hF.tr f2).up (fun t i j hq => ?_)), t2⟩
  · rw [c_M_laysRows, c1, cV_s, show vI (0 : Int32) = vI (nI 0) from rfl, c2, cV_s]
  · cases hz : rqS t i j
    · rfl
    · rw [rq_sc t i j hz] at hq
      cases hq
theorem m_roster {σ : St} {R : RF} (h : H0 σ R) : RM 310 [] σ (vI (cond (decide (0 < nN R)) (ALR R).1 (-2))) := by
  have h1 := thr_H h
  refine RM_of (by rw [c_M_roster, r_isRoof h1, cI_s, tv_ite]) (thr_F σ) (fun _ => ?_)
  obtain ⟨σ2, c2, f2, t2⟩ := s_laysRows h1
  exact ⟨σ2, by rw [c2, cV_s, t2.2.2.1], f2⟩
theorem m_rosters {σ : St} {R : RF} (h : H0 σ R) : RM 312 [] σ (vI (cond (decide (0 < nN R)) (ALR R).2.1 (-2))) := by
  have h1 := thr_H h
  refine RM_of (by rw [c_M_rosters, r_isRoof h1, cI_s, tv_ite]) (thr_F σ) (fun _ => ?_)
  obtain ⟨σ2, c2, f2, t2⟩ := s_laysRows h1
  exact ⟨σ2, by rw [c2, cV_s, t2.2.2.2.1], f2⟩
theorem m_put {σ : St} {R : RF} (h : H0 σ R) (a1 : Int32) : RM 311 [vI a1] σ (vI (cond (inB a1 (nL R)) (nI ((ALR R).2.2.getD (cl a1) 0)) (-2))) := by
  have hbb := h.b
  have h1 := thr_H h
  refine RM_of (by rw [c_M_put, r_isMan h1, cI_s, tv_ite]) (thr_F σ) (fun hq => ?_)
  obtain ⟨l, hl, rfl⟩ := inB_e (by omega) hq
  obtain ⟨σ2, c2, f2, t2⟩ := s_laysRows h1
  refine ⟨σ2, ?_, f2⟩
  rw [c2, cV_s, ix_nI (by omega) (by omega), t2.2.2.2.2.2.1 (ALR_1 h.1) l hl, cl_n (by omega)]
theorem m_fair {σ : St} {R : RF} (h : H0 σ R) : RM 313 [] σ (vI (cond (decide (0 < nN R)) (cond (decide (nL R = 0)) (-1) (FVR R)) (-2))) := by
  have hbb := h.b
  have h1 := thr_H h
  refine RM_of (by rw [c_M_fair, r_isRoof h1, cI_s, tv_ite]) (thr_F σ) (fun _ => ?_)
  obtain ⟨σ2, c2, f2, t2⟩ := s_laysRows h1
  refine ⟨σ2, ?_, f2⟩
  rw [c2, cV_s, cI_L t2.1, t2.2.2.2.2.1]
  by_cases h0 : nL R = 0
  · rw [if_pos (by rw [h0]; rfl), decide_eq_true h0]
    rfl
  · rw [if_neg (nI_ne0 (by omega) (by omega)), decide_eq_false h0]
    rfl
