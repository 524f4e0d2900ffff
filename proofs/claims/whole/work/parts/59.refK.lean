/-! THE REFERENCE: paste, the tape -/
def pasB (a2 a4 a5 : Int32) (n1 n3 : Nat) : Bool := decide (0 ≤ a2.toInt ∧ 0 ≤ a4.toInt ∧ 0 ≤ a5.toInt ∧ a2.toInt + a5.toInt ≤ n1 ∧ a4.toInt + a5.toInt ≤ n3)
def Z_paste (S : AZ) (a1 a2 a3 a4 a5 : Int32) : Int32 × AZ := cond (inB a1 4 && inB a3 4) (cond (decide (kw (zK S) (cl a1) = 4) || decide (kw (zK S) (cl a3) = 4)) (-6, S) (cond (decide (kw (zK S) (cl a1) = kw (zK S) (cl a3))) (cond (pasB a2 a4 a5 (kn (zK S) (cl a1)) (kn (zK S) (cl a3))) (0, (zR S, zI S, zk S, KU (zK S) (cl a3) (kw (zK S) (cl a3)) (kn (zK S) (cl a3)) (fun j => if cl a4 ≤ j ∧ j < cl a4 + cl a5 then kc (zK S) (cl a1) (cl a2 + (j - cl a4)) else kc (zK S) (cl a3) j), zT S)) (-7, S)) (-8, S))) (-2, S)
theorem lt0 (a : Int32) : (a < 0) = (a.toInt < 0) := by
  rw [Int32.lt_iff_toInt_lt]
  rfl
theorem i64_add (a b : Int32) : (a.toInt64 + b.toInt64).toInt = a.toInt + b.toInt := by
  have h1 := Int32.toInt_lt a
  have h2 := Int32.le_toInt a
  have h3 := Int32.toInt_lt b
  have h4 := Int32.le_toInt b
  rw [Int64.toInt_add, Int32.toInt_toInt64, Int32.toInt_toInt64]
  exact Int.bmod_eq_of_le (by omega) (by omega)
theorem pas_le (a b : Int32) {n : Nat} (hn : n < 2 ^ 31) : (lg_cmp (a.toInt64 + b.toInt64) (nI n).toInt64 ≤ 0) = (a.toInt + b.toInt ≤ n) := by
  rw [lg_le0, Int64.le_iff_toInt_le, i64_add, Int32.toInt_toInt64, nI_toInt hn]
theorem nn_e {a : Int32} (h : 0 ≤ a.toInt) : ∃ k, k < 2 ^ 31 ∧ a = nI k := nI_of (fun z => by
  rw [lt0] at z
  omega)
theorem n_paste {σ : St} {S : AZ} (h : JM σ S) (a1 a2 a3 a4 a5 : Int32) : RMS 209 [vI a1, vI a2, vI a3, vI a4, vI a5] σ (vI (Z_paste S a1 a2 a3 a4 a5).1) (Z_paste S a1 a2 a3 a4 a5).2 := by
  have h1 := h.f (thr_F σ)
  have f1 := (thr_F σ).rfs
  unfold Z_paste RMS
  rw [c_M_paste, r_isSlot, cI_s, tv_ite, r_isSlot, cI_s, tv_ite, cond_and]
  cases hb : inB a1 4 && inB a3 4
  · exact ⟨_, rfl, f1, h1⟩
  · rw [Bool.and_eq_true] at hb
    obtain ⟨s, hs, rfl⟩ := inB_e (by omega) hb.1
    obtain ⟨t, ht, rfl⟩ := inB_e (by omega) hb.2
    obtain ⟨g1, g2, g3, g4⟩ := h1.2.2.1 s hs
    obtain ⟨m1, m2, m3, m4⟩ := h1.2.2.1 t ht
    rw [cond_true, cond_true, cl_n (by omega), cl_n (by omega), ix_nI hs (by omega)]
    by_cases hw : kw (zK S) s = 4
    · rw [g3 hw, if_pos rfl, decide_eq_true hw]
      exact ⟨_, rfl, f1, h1⟩
    · obtain ⟨d1, d2, d3⟩ := g4 hw
      rw [d1, if_neg (nn1 (by omega)), decide_eq_false hw, Bool.false_or, ix_nI ht (by omega)]
      by_cases hv : kw (zK S) t = 4
      · rw [m3 hv, if_pos rfl, decide_eq_true hv]
        exact ⟨_, rfl, f1, h1⟩
      · obtain ⟨e1, e2, e3⟩ := m4 hv
        rw [e1, if_neg (nn1 (by omega)), decide_eq_false hv, cond_false, ix_nI hs (by omega), ix_nI ht (by omega), d1, e1]
        by_cases hwv : kw (zK S) s = kw (zK S) t
        · rw [if_pos (by rw [hwv]), decide_eq_true hwv, cond_true, ix_nI hs (by omega), ix_nI ht (by omega), d2, e2]
          have hno : ∀ b : Bool, b = false → pasB a2 a4 a5 (kn (zK S) s) (kn (zK S) t) = b → ∃ σ', some (some (vI (-7)), sI σ 96 0 0 0) = some (some (vI (cond (pasB a2 a4 a5 (kn (zK S) s) (kn (zK S) t)) ((0 : Int32), (zR S, zI S, zk S, KU (zK S) t (kw (zK S) t) (kn (zK S) t) (fun j => if cl a4 ≤ j ∧ j < cl a4 + cl a5 then kc (zK S) s (cl a2 + (j - cl a4)) else kc (zK S) t j), zT S)) (-7, S)).1), σ') ∧ Fr rfS σ σ' ∧ JM σ' (cond (pasB a2 a4 a5 (kn (zK S) s) (kn (zK S) t)) ((0 : Int32), (zR S, zI S, zk S, KU (zK S) t (kw (zK S) t) (kn (zK S) t) (fun j => if cl a4 ≤ j ∧ j < cl a4 + cl a5 then kc (zK S) s (cl a2 + (j - cl a4)) else kc (zK S) t j), zT S)) (-7, S)).2 := fun b hb1 hb2 => by
            subst hb1
            rw [hb2]
            exact ⟨_, rfl, f1, h1⟩
          simp only [lt0, pas_le a2 a5 (show kn (zK S) s < 2 ^ 31 by omega), pas_le a4 a5 (show kn (zK S) t < 2 ^ 31 by omega)]
          by_cases q2 : a2.toInt < 0
          · rw [if_pos q2]
            exact hno _ rfl (decide_eq_false (by omega))
          · rw [if_neg q2]
            by_cases q4 : a4.toInt < 0
            · rw [if_pos q4]
              exact hno _ rfl (decide_eq_false (by omega))
            · rw [if_neg q4]
              by_cases q5 : a5.toInt < 0
              · rw [if_pos q5]
                exact hno _ rfl (decide_eq_false (by omega))
              · rw [if_neg q5]
                by_cases q6 : a2.toInt + a5.toInt ≤ kn (zK S) s
                · rw [if_pos q6]
                  by_cases q7 : a4.toInt + a5.toInt ≤ kn (zK S) t
                  · rw [if_pos q7, show pasB a2 a4 a5 (kn (zK S) s) (kn (zK S) t) = true from decide_eq_true (by omega), cond_true]
                    obtain ⟨i, i1, rfl⟩ := nn_e (a := a2) (by omega)
                    obtain ⟨k, k1, rfl⟩ := nn_e (a := a4) (by omega)
                    obtain ⟨n, n1, rfl⟩ := nn_e (a := a5) (by omega)
                    rw [nI_toInt i1, nI_toInt n1] at q6
                    rw [nI_toInt k1, nI_toInt n1] at q7
                    rw [cl_n i1, cl_n k1, cl_n n1]
                    have hl1 := lpU (V := fun j => Vv 209 0 118 [some (vR 96 0), some (vI (nI s)), some (vI (nI i)), some (vI (nI t)), some (vI (nI k)), some (vI (nI n)), some (vI (nI j))] [] (pL (sI σ 96 0 0 0) 31042 0 (fun q => if q < j then kc (zK S) s (i + q) else gL σ 31042 0 q))) (n := n) (fun j hj => by
                      show Vv _ _ _ _ _ _ = Vv _ _ _ _ _ _
                      rw [v_M_paste_118, if_pos (nI_lt hj (by omega)), sixty, nI_add, nI_add, ix_nI (by omega) (by omega), ix_nI (by omega) (by omega), gL_pLn (by decide), show 60 * s + i + j = 60 * s + (i + j) by omega, d3 (i + j) (by omega), sL_pL, nI_1]
                      congr 2
                      funext q
                      unfold vp_updL
                      try dsimp only
                      by_cases hq : q = j
                      · rw [if_pos hq, if_pos (by omega), hq]
                      · rw [if_neg hq]
                        by_cases hq2 : q < j
                        · rw [if_pos hq2, if_pos (by omega)]
                        · rw [if_neg hq2, if_neg (by omega)])
                    have z0 : pL (sI σ 96 0 0 0) 31042 0 (fun q => if q < 0 then kc (zK S) s (i + q) else gL σ 31042 0 q) = sI σ 96 0 0 0 := by
                      have : (fun q => if q < 0 then kc (zK S) s (i + q) else gL σ 31042 0 q) = gL (sI σ 96 0 0 0) 31042 0 := by
                        funext q
                        rw [if_neg (by omega)]
                        rfl
                      rw [this, pL_id]
                    have hl1 : Vv 209 0 118 [some (vR 96 0), some (vI (nI s)), some (vI (nI i)), some (vI (nI t)), some (vI (nI k)), some (vI (nI n)), some (vI (nI 0))] [] (pL (sI σ 96 0 0 0) 31042 0 (fun q => if q < 0 then kc (zK S) s (i + q) else gL σ 31042 0 q)) = Vv 209 0 118 [some (vR 96 0), some (vI (nI s)), some (vI (nI i)), some (vI (nI t)), some (vI (nI k)), some (vI (nI n)), some (vI (nI n))] [] (pL (sI σ 96 0 0 0) 31042 0 (fun q => if q < n then kc (zK S) s (i + q) else gL σ 31042 0 q)) := hl1
                    rw [z0] at hl1
                    generalize hτ : pL (sI σ 96 0 0 0) 31042 0 (fun q => if q < n then kc (zK S) s (i + q) else gL σ 31042 0 q) = τ at hl1
                    have gm : ∀ q, q < n → gL τ 31042 0 q = kc (zK S) s (i + q) := fun q hq => by rw [← hτ, gL_pLs, if_pos hq]
                    have fτ : Fr slS σ τ := by
                      rw [← hτ]
                      exact (Fr.rf.sI rfl).pL (fun _ => rfl)
                    have gc : ∀ q, gL τ 123194 0 q = gL σ 123194 0 q := fun q => by rw [← hτ, gL_pLn (by decide)]; rfl
                    have hl2 := lpU (V := fun j => Vv 209 0 155 [some (vR 96 0), some (vI (nI s)), some (vI (nI i)), some (vI (nI t)), some (vI (nI k)), some (vI (nI n)), some (vI (nI j))] [] (pL τ 123194 0 (fun q => if 60 * t + k ≤ q ∧ q < 60 * t + k + j then kc (zK S) s (i + (q - (60 * t + k))) else gL σ 123194 0 q))) (n := n) (fun j hj => by
                      show Vv _ _ _ _ _ _ = Vv _ _ _ _ _ _
                      rw [v_M_paste_155, if_pos (nI_lt hj (by omega)), sixty, nI_add, nI_add, ix_nI (by omega) (by omega), ix_nI (by omega) (by omega), gL_pLn (by decide), gm j hj, sL_pL, nI_1]
                      congr 2
                      funext q
                      unfold vp_updL
                      try dsimp only
                      by_cases hq : q = 60 * t + k + j
                      · rw [if_pos hq, if_pos (by omega), show i + (q - (60 * t + k)) = i + j by omega]
                      · rw [if_neg hq]
                        by_cases hq2 : 60 * t + k ≤ q ∧ q < 60 * t + k + j
                        · rw [if_pos hq2, if_pos (by omega)]
                        · rw [if_neg hq2, if_neg (by omega)])
                    have z1 : pL τ 123194 0 (fun q => if 60 * t + k ≤ q ∧ q < 60 * t + k + 0 then kc (zK S) s (i + (q - (60 * t + k))) else gL σ 123194 0 q) = τ := by
                      have : (fun q => if 60 * t + k ≤ q ∧ q < 60 * t + k + 0 then kc (zK S) s (i + (q - (60 * t + k))) else gL σ 123194 0 q) = gL τ 123194 0 := by
                        funext q
                        rw [if_neg (by omega), gc]
                      rw [this, pL_id]
                    have hl2 : Vv 209 0 155 [some (vR 96 0), some (vI (nI s)), some (vI (nI i)), some (vI (nI t)), some (vI (nI k)), some (vI (nI n)), some (vI (nI 0))] [] (pL τ 123194 0 (fun q => if 60 * t + k ≤ q ∧ q < 60 * t + k + 0 then kc (zK S) s (i + (q - (60 * t + k))) else gL σ 123194 0 q)) = Vv 209 0 155 [some (vR 96 0), some (vI (nI s)), some (vI (nI i)), some (vI (nI t)), some (vI (nI k)), some (vI (nI n)), some (vI (nI n))] [] (pL τ 123194 0 (fun q => if 60 * t + k ≤ q ∧ q < 60 * t + k + n then kc (zK S) s (i + (q - (60 * t + k))) else gL σ 123194 0 q)) := hl2
                    rw [z1] at hl2
                    have hF : Fr slS σ (pL τ 123194 0 (fun q => if 60 * t + k ≤ q ∧ q < 60 * t + k + n then kc (zK S) s (i + (q - (60 * t + k))) else gL σ 123194 0 q)) := fτ.pL (fun _ => rfl)
                    refine ⟨_, ?_, hF.sls, h.sl hF (SM_KU (fun u hu hut => ?_) (by omega) m2 ?_ ?_ (fun j hj => ?_))⟩
                    · refine Eq.trans hl1 ?_
                      rw [v_M_paste_118, if_neg (nI_nlt (Nat.le_refl _) (by omega))]
                      refine Eq.trans hl2 ?_
                      rw [v_M_paste_155, if_neg (nI_nlt (Nat.le_refl _) (by omega))]
                    · obtain ⟨x1, x2, x3, x4⟩ := h.2.2.1 u hu
                      have hmI : ∀ q, gI τ 2345 0 q = gI σ 2345 0 q := fun q => by rw [← hτ, gI_pL, gI_sIn (by decide)]
                      have hmM : ∀ q, gI τ 2353 0 q = gI σ 2353 0 q := fun q => by rw [← hτ, gI_pL, gI_sIn (by decide)]
                      refine ⟨x1, x2, fun z => by rw [gI_pL, hmI]; exact x3 z, fun z => ?_⟩
                      obtain ⟨y1, y2, y3⟩ := x4 z
                      refine ⟨by rw [gI_pL, hmI]; exact y1, by rw [gI_pL, hmM]; exact y2, fun j hj => ?_⟩
                      rw [gL_pLs, if_neg (by omega)]
                      exact y3 j hj
                    · rw [gI_pL, ← hτ, gI_pL]
                      exact e1
                    · rw [gI_pL, ← hτ, gI_pL]
                      exact e2
                    · rw [gL_pLs]
                      by_cases hz : k ≤ j ∧ j < k + n
                      · rw [if_pos (by omega), if_pos hz, show 60 * t + j - (60 * t + k) = j - k by omega]
                      · rw [if_neg (by omega), if_neg hz]
                        exact e3 j hj
                  · rw [if_neg q7]
                    exact hno _ rfl (decide_eq_false (by omega))
                · rw [if_neg q6]
                  exact hno _ rfl (decide_eq_false (by omega))
        · rw [if_neg (fun z => hwv ((nI_eq (by omega) (by omega)).mp z)), decide_eq_false hwv]
          exact ⟨_, rfl, f1, h1⟩
/-! the tape -/
def by8 (v sh : Int32) : Int32 := (Int32.toInt8 ((Int32.toInt8 (v >>> (sh &&& 31))).toInt32)).toInt32
def shf (k : Nat) : Int32 := match k with
  | 0 => 24
  | 1 => 16
  | 2 => 8
  | _ => 0
theorem by8_in (v sh : Int32) : -128 ≤ (by8 v sh).toInt ∧ (by8 v sh).toInt ≤ 127 := by
  unfold by8
  rw [Int8.toInt_toInt32]
  have h1 := Int8.toInt_lt ((Int32.toInt8 (v >>> (sh &&& 31))).toInt32).toInt8
  have h2 := Int8.le_toInt ((Int32.toInt8 (v >>> (sh &&& 31))).toInt32).toInt8
  omega
def tpS (t _i j : Nat) : Bool := Nat.beq t 358731 || (Nat.beq t 96 && (Nat.beq j 0 || Nat.beq j 6))
theorem four1 {σ : St} {t : Nat} (h : gI σ 96 0 6 = nI t) (ht : t < 700) (v l : Int32) (hl : ¬ l < 0) : Vv 211 0 3 [some (vR 96 0), some (vI v), some (vI l)] [] σ = Vv 211 0 3 [some (vR 96 0), some (vI v), some (vI (l + (-8)))] [] (sI (sI σ 358731 0 t (by8 v l)) 96 0 6 (nI (t + 1))) := by
  rw [v_M_four_3, if_neg hl, h, ix_nI ht (by omega), gI_sIn (by decide), h, nI_1]
  rfl
theorem s_four {σ : St} {t : Nat} (h : gI σ 96 0 6 = nI t) (ht : t + 4 ≤ 700) (v : Int32) : ∃ σ', Cc 211 0 [vR 96 0, vI v] σ = some (none, σ') ∧ Fr tpS σ σ' ∧ gI σ' 96 0 6 = nI (t + 4) ∧ ∀ i, gI σ' 358731 0 i = if t ≤ i ∧ i < t + 4 then by8 v (shf (i - t)) else gI σ 358731 0 i := by
  rw [c_M_four, four1 h (by omega) v 24 (by decide), four1 (gI_sIs _ _ _ _ _) (by omega) v _ (by decide), four1 (gI_sIs _ _ _ _ _) (by omega) v _ (by decide), four1 (gI_sIs _ _ _ _ _) (by omega) v _ (by decide), v_M_four_3, if_pos (by decide)]
  refine ⟨_, rfl, (((((((Fr.rf.sI rfl).sI rfl).sI rfl).sI rfl).sI rfl).sI rfl).sI rfl).sI rfl, gI_sIs _ _ _ _ _, fun i => ?_⟩
  rw [gI_sIn (by decide), gI_sI, gI_sIn (by decide), gI_sI, gI_sIn (by decide), gI_sI, gI_sIn (by decide), gI_sI]
  by_cases h3 : i = t + 3
  · rw [if_pos ⟨rfl, rfl, by omega⟩, if_pos (by omega), show i - t = 3 by omega]; rfl
  · rw [if_neg (by omega)]
    by_cases h2 : i = t + 2
    · rw [if_pos ⟨rfl, rfl, by omega⟩, if_pos (by omega), show i - t = 2 by omega]; rfl
    · rw [if_neg (by omega)]
      by_cases h1 : i = t + 1
      · rw [if_pos ⟨rfl, rfl, by omega⟩, if_pos (by omega), show i - t = 1 by omega]; rfl
      · rw [if_neg (by omega)]
        by_cases h0 : i = t
        · rw [if_pos ⟨rfl, rfl, by omega⟩, if_pos (by omega), show i - t = 0 by omega]; rfl
        · rw [if_neg (by omega), if_neg (by omega)]
/-- twenty bytes -/
def fb (a1 a2 a3 a4 a5 : Int32) (k : Nat) : Int32 := by8 (match k / 4 with | 0 => a1 | 1 => a2 | 2 => a3 | 3 => a4 | _ => a5) (shf (k % 4))
def Z_feed (S : AZ) (a1 a2 a3 a4 a5 : Int32) : Int32 × AZ := cond (decide ((zT S).2.1 + 20 ≤ 700)) (nI ((zT S).2.1 + 20), (zR S, zI S, zk S, zK S, ((fun i => if i < (zT S).2.1 then (zT S).1 i else fb a1 a2 a3 a4 a5 (i - (zT S).2.1)), (zT S).2.1 + 20, (zT S).2.2))) (-1, S)
theorem JM.tp {σ σ' : St} {S : AZ} {tt : TP} (h : JM σ S) (hf : Fr tpS σ σ') (hT : TM σ' tt) : JM σ' (zR S, zI S, zk S, zK S, tt) :=
  ⟨⟨h.1.1, h.1.2.fr hf (fun _ => ⟨rfl, rfl, rfl, rfl, rfl, rfl, rfl, rfl, rfl⟩)⟩, h.2.1.f2 hf (fun _ => ⟨rfl, rfl, rfl, rfl, rfl, rfl, rfl, rfl, rfl, rfl⟩), fun s hs => by
    obtain ⟨h1, h2, h3, h4⟩ := h.2.2.1 s hs
    refine ⟨h1, h2, fun q => (hf.i rfl).trans (h3 q), fun q => ?_⟩
    obtain ⟨g1, g2, g3⟩ := h4 q
    exact ⟨(hf.i rfl).trans g1, (hf.i rfl).trans g2, fun k hk => (hf.l rfl).trans (g3 k hk)⟩, hT⟩
theorem tp_rf (t i j : Nat) (h : tpS t i j = true) : rfS t i j = true := by
  unfold tpS at h
  simp only [Bool.or_eq_true, Bool.and_eq_true] at h
  rcases h with h | h <;> first | (rw [Nat.eq_of_beq_eq_true h]; rfl) | (rw [Nat.eq_of_beq_eq_true h.1]; rfl)
theorem Fr.tps {σ σ' : St} (h : Fr tpS σ σ') : Fr rfS σ σ' := h.up (fun t i j hq => by
  cases hz : tpS t i j
  · rfl
  · rw [tp_rf t i j hz] at hq
    cases hq)
theorem n_feed {σ : St} {S : AZ} (h : JM σ S) (a1 a2 a3 a4 a5 : Int32) : RMS 210 [vI a1, vI a2, vI a3, vI a4, vI a5] σ (vI (Z_feed S a1 a2 a3 a4 a5).1) (Z_feed S a1 a2 a3 a4 a5).2 := by
  have h1 := h.f (thr_F σ)
  have f1 := (thr_F σ).rfs
  obtain ⟨t1, t2, t3, t4, t5⟩ := h1.2.2.2
  have e20 : nI (zT S).2.1 + 20 = nI ((zT S).2.1 + 20) := nI_add _ 20
  unfold Z_feed RMS
  rw [c_M_feed, t1, e20]
  by_cases hle : (zT S).2.1 + 20 ≤ 700
  · rw [if_pos (show nI ((zT S).2.1 + 20) ≤ (700 : Int32) from nI_le (b := 700) hle (by omega)), decide_eq_true hle]
    obtain ⟨σ1, c1, g1, x1, y1⟩ := s_four t1 (by omega) a1
    obtain ⟨σ2, c2, g2, x2, y2⟩ := s_four x1 (by omega) a2
    obtain ⟨σ3, c3, g3, x3, y3⟩ := s_four x2 (by omega) a3
    obtain ⟨σ4, c4, g4, x4, y4⟩ := s_four x3 (by omega) a4
    obtain ⟨σ5, c5, g5, x5, y5⟩ := s_four x4 (by omega) a5
    have hF0 : Fr tpS σ (sI σ 96 0 0 0) := Fr.rf.sI rfl
    have hF : Fr tpS (sI σ 96 0 0 0) σ5 := (((g1.tr g2).tr g3).tr g4).tr g5
    refine ⟨σ5, by rw [c1, cV_s, c2, cV_s, c3, cV_s, c4, cV_s, c5, cV_s, x5]; rfl, (hF0.tr hF).tps, h.tp (hF0.tr hF) ⟨x5, hle, fun i hi => ?_, (hF.i rfl).trans t4, (hF.i rfl).trans t5⟩⟩
    have hi : i < (zT S).2.1 + 20 := hi
    show gI σ5 358731 0 i = (if i < (zT S).2.1 then (zT S).1 i else fb a1 a2 a3 a4 a5 (i - (zT S).2.1)) ∧ _
    have hb : ∀ k, k < 20 → -128 ≤ (fb a1 a2 a3 a4 a5 k).toInt ∧ (fb a1 a2 a3 a4 a5 k).toInt ≤ 127 := fun k _ => by8_in _ _
    by_cases hlt : i < (zT S).2.1
    · show _ ∧ -128 ≤ (if i < (zT S).2.1 then (zT S).1 i else fb a1 a2 a3 a4 a5 (i - (zT S).2.1)).toInt ∧ (if i < (zT S).2.1 then (zT S).1 i else fb a1 a2 a3 a4 a5 (i - (zT S).2.1)).toInt ≤ 127
      rw [if_pos hlt, y5, if_neg (by omega), y4, if_neg (by omega), y3, if_neg (by omega), y2, if_neg (by omega), y1, if_neg (by omega)]
      exact t3 i hlt
    · show _ ∧ -128 ≤ (if i < (zT S).2.1 then (zT S).1 i else fb a1 a2 a3 a4 a5 (i - (zT S).2.1)).toInt ∧ (if i < (zT S).2.1 then (zT S).1 i else fb a1 a2 a3 a4 a5 (i - (zT S).2.1)).toInt ≤ 127
      rw [if_neg hlt]
      refine ⟨?_, hb _ (by omega)⟩
      have hcase : i - (zT S).2.1 < 4 ∨ (4 ≤ i - (zT S).2.1 ∧ i - (zT S).2.1 < 8) ∨ (8 ≤ i - (zT S).2.1 ∧ i - (zT S).2.1 < 12) ∨ (12 ≤ i - (zT S).2.1 ∧ i - (zT S).2.1 < 16) ∨ (16 ≤ i - (zT S).2.1 ∧ i - (zT S).2.1 < 20) := by omega
      unfold fb
      rcases hcase with hc | hc | hc | hc | hc
      · rw [y5, if_neg (by omega), y4, if_neg (by omega), y3, if_neg (by omega), y2, if_neg (by omega), y1, if_pos (by omega), show (i - (zT S).2.1) / 4 = 0 by omega, show (i - (zT S).2.1) % 4 = i - (zT S).2.1 by omega]; rfl
      · rw [y5, if_neg (by omega), y4, if_neg (by omega), y3, if_neg (by omega), y2, if_pos (by omega), show (i - (zT S).2.1) / 4 = 1 by omega, show (i - (zT S).2.1) % 4 = i - ((zT S).2.1 + 4) by omega]; rfl
      · rw [y5, if_neg (by omega), y4, if_neg (by omega), y3, if_pos (by omega), show (i - (zT S).2.1) / 4 = 2 by omega, show (i - (zT S).2.1) % 4 = i - ((zT S).2.1 + 4 + 4) by omega]; rfl
      · rw [y5, if_neg (by omega), y4, if_pos (by omega), show (i - (zT S).2.1) / 4 = 3 by omega, show (i - (zT S).2.1) % 4 = i - ((zT S).2.1 + 4 + 4 + 4) by omega]; rfl
      · rw [y5, if_pos (by omega), show (i - (zT S).2.1) / 4 = 4 by omega, show (i - (zT S).2.1) % 4 = i - ((zT S).2.1 + 4 + 4 + 4 + 4) by omega]; rfl
  · rw [if_neg (show ¬ nI ((zT S).2.1 + 20) ≤ (700 : Int32) from nI_ge (a := 700) (by omega) (by omega)), decide_eq_false hle]
    exact ⟨_, rfl, f1, h1⟩
def Z_end (S : AZ) (a1 : Int32) : Int32 × AZ := cond (inB a1 ((zT S).2.1 + 1)) (a1, (zR S, zI S, zk S, zK S, ((zT S).1, cl a1, (zT S).2.2))) (-1, S)
theorem n_end {σ : St} {S : AZ} (h : JM σ S) (a1 : Int32) : RMS 212 [vI a1] σ (vI (Z_end S a1).1) (Z_end S a1).2 := by
  have h1 := h.f (thr_F σ)
  have f1 := (thr_F σ).rfs
  obtain ⟨t1, t2, t3, t4, t5⟩ := h1.2.2.2
  unfold Z_end RMS
  rw [c_M_end, t1, s_in, cI_s, inB_le a1 (by omega), tv_ite]
  cases hb : inB a1 ((zT S).2.1 + 1)
  · exact ⟨_, rfl, f1, h1⟩
  · obtain ⟨k, hk, rfl⟩ := inB_e (by omega) hb
    rw [cl_n (by omega)]
    have hF : Fr tpS σ (sI (sI σ 96 0 0 0) 96 0 6 (nI k)) := (Fr.rf.sI rfl).sI rfl
    refine ⟨_, rfl, hF.tps, h.tp hF ⟨gI_sIs _ _ _ _ _, by show k ≤ 700; omega, fun i hi => ?_, ?_, ?_⟩⟩
    · rw [gI_sIn (by decide)]
      have hi : i < k := hi
      exact t3 i (by omega)
    · rw [gI_sIj (by decide)]
      exact t4
    · rw [gI_sIj (by decide)]
      exact t5
def Z_fault (S : AZ) (a1 : Int32) : Int32 := cond (decide (a1 = 0)) (zT S).2.2.1 (cond (decide (a1 = 1)) (zT S).2.2.2 (-1))
theorem n_fault {σ : St} {S : AZ} (h : JM σ S) (a1 : Int32) : RMS 225 [vI a1] σ (vI (Z_fault S a1)) S := by
  have h1 := h.f (thr_F σ)
  have f1 := (thr_F σ).rfs
  obtain ⟨t1, t2, t3, t4, t5⟩ := h1.2.2.2
  unfold Z_fault RMS
  rw [c_M_fault, t4, t5, ite_n, ite_n]
  refine ⟨_, ?_, f1, h1⟩
  cases decide (a1 = 0) <;> cases decide (a1 = 1) <;> rfl
