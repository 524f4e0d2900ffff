/-! THE REFERENCE: acts, counts, images -/
/-- one number of the roof is another -/
def R1 (R : RF) (a b v : Nat) : RF := fun x y => if x = a ∧ y = b then v else R x y
/-- an act more -/
def RA (R : RF) (k a b y : Nat) : RF := fun x j => if x = 0 ∧ j = 8 then nA R + 1 else if x = 12 ∧ j = nA R then k else if x = 13 ∧ j = nA R then a else if x = 14 ∧ j = nA R then b else if x = 15 ∧ j = nA R then y else R x j
theorem RA_0 (R : RF) (k a b y j : Nat) : RA R k a b y 0 j = if j = 8 then nA R + 1 else R 0 j := by
  unfold RA
  by_cases h : j = 8
  · rw [if_pos ⟨rfl, h⟩, if_pos h]
  · rw [if_neg (fun z => h z.2), if_neg (by omega), if_neg (by omega), if_neg (by omega), if_neg (by omega), if_neg h]
theorem RA_x (R : RF) (k a b y : Nat) {x : Nat} (h0 : x ≠ 0) (h1 : x ≠ 12) (h2 : x ≠ 13) (h3 : x ≠ 14) (h4 : x ≠ 15) (j : Nat) : RA R k a b y x j = R x j := by
  unfold RA
  rw [if_neg (fun z => h0 z.1), if_neg (fun z => h1 z.1), if_neg (fun z => h2 z.1), if_neg (fun z => h3 z.1), if_neg (fun z => h4 z.1)]
theorem RA_n (R : RF) (k a b y : Nat) : RA R k a b y 12 (nA R) = k ∧ RA R k a b y 13 (nA R) = a ∧ RA R k a b y 14 (nA R) = b ∧ RA R k a b y 15 (nA R) = y := by
  unfold RA
  refine ⟨?_, ?_, ?_, ?_⟩
  · rw [if_neg (by omega), if_pos ⟨rfl, rfl⟩]
  · rw [if_neg (by omega), if_neg (by omega), if_pos ⟨rfl, rfl⟩]
  · rw [if_neg (by omega), if_neg (by omega), if_neg (by omega), if_pos ⟨rfl, rfl⟩]
  · rw [if_neg (by omega), if_neg (by omega), if_neg (by omega), if_neg (by omega), if_pos ⟨rfl, rfl⟩]
theorem RA_o (R : RF) (k a b y : Nat) {i : Nat} (hi : i < nA R) : RA R k a b y 12 i = R 12 i ∧ RA R k a b y 13 i = R 13 i ∧ RA R k a b y 14 i = R 14 i ∧ RA R k a b y 15 i = R 15 i := by
  unfold RA
  refine ⟨?_, ?_, ?_, ?_⟩ <;> rw [if_neg (by omega), if_neg (by omega), if_neg (by omega), if_neg (by omega), if_neg (by omega)]
theorem WF_RA {R : RF} (h : WF R) {k a b y : Nat} (hA : nA R < 30) (hN : 0 < nN R) (hk : (k = 1 → a < nF R) ∧ (k ≠ 1 → a < nL R ∧ b < nL R ∧ a ≠ b ∧ y < yr R)) : WF (RA R k a b y) := by
  obtain ⟨hb, ht⟩ := h
  have e : ∀ j, j ≠ 8 → RA R k a b y 0 j = R 0 j := fun j hj => by rw [RA_0, if_neg hj]
  have e8 : RA R k a b y 0 8 = nA R + 1 := by rw [RA_0, if_pos rfl]
  have ex1 := fun j => RA_x R k a b y (x := 1) (by omega) (by omega) (by omega) (by omega) (by omega) j
  have ex2 := fun j => RA_x R k a b y (x := 2) (by omega) (by omega) (by omega) (by omega) (by omega) j
  have ex3 := fun j => RA_x R k a b y (x := 3) (by omega) (by omega) (by omega) (by omega) (by omega) j
  have ex4 := fun j => RA_x R k a b y (x := 4) (by omega) (by omega) (by omega) (by omega) (by omega) j
  have ex5 := fun j => RA_x R k a b y (x := 5) (by omega) (by omega) (by omega) (by omega) (by omega) j
  have ex6 := fun j => RA_x R k a b y (x := 6) (by omega) (by omega) (by omega) (by omega) (by omega) j
  have ex7 := fun j => RA_x R k a b y (x := 7) (by omega) (by omega) (by omega) (by omega) (by omega) j
  have ex8 := fun j => RA_x R k a b y (x := 8) (by omega) (by omega) (by omega) (by omega) (by omega) j
  have ex9 := fun j => RA_x R k a b y (x := 9) (by omega) (by omega) (by omega) (by omega) (by omega) j
  have ex10 := fun j => RA_x R k a b y (x := 10) (by omega) (by omega) (by omega) (by omega) (by omega) j
  have ex11 := fun j => RA_x R k a b y (x := 11) (by omega) (by omega) (by omega) (by omega) (by omega) j
  refine ⟨?_, ?_⟩
  · show RA R k a b y 0 3 ≤ 6 ∧ RA R k a b y 0 4 ≤ 7 ∧ RA R k a b y 0 5 ≤ 6 ∧ RA R k a b y 0 6 ≤ 10 ∧ RA R k a b y 0 7 ≤ 6 ∧ RA R k a b y 0 8 ≤ 30 ∧ RA R k a b y 0 0 ≤ 12 ∧ RA R k a b y 0 1 ≤ 3 ∧ RA R k a b y 0 2 ≤ 10 ∧ RA R k a b y 0 9 ≤ 700
    rw [e 3 (by omega), e 4 (by omega), e 5 (by omega), e 6 (by omega), e 7 (by omega), e8, e 0 (by omega), e 1 (by omega), e 2 (by omega), e 9 (by omega)]
    exact ⟨hb.1, hb.2.1, hb.2.2.1, hb.2.2.2.1, hb.2.2.2.2.1, hA, hb.2.2.2.2.2.2⟩
  · simp only [WT, nP, nM, nF, nW, nL, nA, yr, nN, px, py, mx, my, mw, fx, fy, wa, wb, lp, lh, e 3 (by omega), e 4 (by omega), e 5 (by omega), e 6 (by omega), e 7 (by omega), e8, e 0 (by omega), e 9 (by omega), ex1, ex2, ex3, ex4, ex5, ex6, ex7, ex8, ex9, ex10, ex11]
    refine ⟨fun z => absurd z (show ¬ nN R = 0 by omega), ht.2.1, ht.2.2.1, ht.2.2.2.1, ht.2.2.2.2.1, ht.2.2.2.2.2.1, ht.2.2.2.2.2.2.1, fun i hi => ?_⟩
    by_cases hin : i = nA R
    · subst hin
      obtain ⟨r1, r2, r3, r4⟩ := RA_n R k a b y
      simp only [ak, aa, ab, ay, r1, r2, r3, r4]
      exact hk
    · have hi : i < nA R + 1 := hi
      obtain ⟨r1, r2, r3, r4⟩ := RA_o R k a b y (i := i) (by omega)
      simp only [ak, aa, ab, ay, r1, r2, r3, r4]
      exact ht.2.2.2.2.2.2.2 i (by omega)
/-- what an act writes -/
def acS (t _i j : Nat) : Bool := Nat.beq t 307601 || (Nat.beq t 23385 && Nat.beq j 8) || (Nat.beq t 18289 && Nat.ble j 6) || scM t 0 j
theorem ac_rf (t i j : Nat) (h : acS t i j = true) : rfS t i j = true := by
  unfold acS at h
  simp only [Bool.or_eq_true, Bool.and_eq_true] at h
  rcases h with ((h | h) | h) | h
  · rw [Nat.eq_of_beq_eq_true h]; rfl
  · rw [Nat.eq_of_beq_eq_true h.1]; rfl
  · rw [Nat.eq_of_beq_eq_true h.1]; rfl
  · exact sc_rf t i j h
theorem Fr.acs {σ σ' : St} (h : Fr acS σ σ') : Fr rfS σ σ' := h.up (fun t i j hq => by
  cases hz : acS t i j
  · rfl
  · rw [ac_rf t i j hz] at hq
    cases hq)

theorem has_e (R : RF) (k a b y : Nat) : ∀ j, j < 9 → j ≠ 8 → RA R k a b y 0 j = R 0 j := fun j _ hj => by rw [RA_0, if_neg hj]
def doS (t _i j : Nat) : Bool := Nat.beq t 307601 || (Nat.beq t 23385 && Nat.beq j 8)
theorem do_ac {σ σ' : St} (h : Fr doS σ σ') : Fr acS σ σ' := h.up (fun t i j hq => by
  unfold acS at hq
  simp only [Bool.or_eq_false_iff] at hq
  unfold doS
  rw [hq.1.1.1, hq.1.1.2]
  rfl)
/-- does(): how a state holds an act more -/
theorem s_does {σ : St} {R : RF} (h : H0 σ R) (hA : nA R < 30) (v1 v2 v3 v4 : Int32) : ∃ σ', Cc 362 0 [vR 96 0, vI v1, vI v2, vI v3, vI v4] σ = some (none, σ') ∧ Fr doS σ σ' ∧ gI σ' 23385 0 8 = nI (nA R + 1) ∧ (∀ j, j ≠ 8 → gI σ' 23385 0 j = gI σ 23385 0 j) ∧ gI σ' 307601 0 (4 * nA R) = v1 ∧ gI σ' 307601 0 (4 * nA R + 1) = v2 ∧ gI σ' 307601 0 (4 * nA R + 2) = v3 ∧ gI σ' 307601 0 (4 * nA R + 3) = v4 ∧ ∀ j, (j < 4 * nA R ∨ 4 * nA R + 4 ≤ j) → gI σ' 307601 0 j = gI σ 307601 0 j := by
  rw [c_M_does, ixh8, h.A, four_n, ix_nI (by omega) (by omega), nI_1, ix_nI (by omega) (by omega), nI_2, ix_nI (by omega) (by omega), nI_3, ix_nI (by omega) (by omega), ixh8, ixh8, gI_sIn (by decide), gI_sIn (by decide), gI_sIn (by decide), gI_sIn (by decide), h.A, nI_1]
  refine ⟨_, rfl, (((((Fr.rf.sI rfl).sI rfl).sI rfl).sI rfl).sI rfl), gI_sIs _ _ _ _ _, fun j hj => ?_, ?_, ?_, ?_, ?_, fun j hj => ?_⟩
  · rw [gI_sIj hj, gI_sIn (by decide), gI_sIn (by decide), gI_sIn (by decide), gI_sIn (by decide)]
  · rw [gI_sIn (by decide), gI_sIj (by omega), gI_sIj (by omega), gI_sIj (by omega), gI_sIs]
  · rw [gI_sIn (by decide), gI_sIj (by omega), gI_sIj (by omega), gI_sIs]
  · rw [gI_sIn (by decide), gI_sIj (by omega), gI_sIs]
  · rw [gI_sIn (by decide), gI_sIs]
  · rw [gI_sIn (by decide), gI_sIj (by omega), gI_sIj (by omega), gI_sIj (by omega), gI_sIj (by omega)]
theorem HM_RA {σ σ' : St} {R : RF} (h : HM σ 0 R) {k a b y : Nat} (hf : Fr doS σ σ') (h8 : gI σ' 23385 0 8 = nI (nA R + 1)) (ho : ∀ j, j ≠ 8 → gI σ' 23385 0 j = gI σ 23385 0 j) (hj : ∀ j, (j < 4 * nA R ∨ 4 * nA R + 4 ≤ j) → gI σ' 307601 0 j = gI σ 307601 0 j)
    (hk : (k = 1 → gI σ' 307601 0 (4 * nA R) = nI a ∧ gI σ' 307601 0 (4 * nA R + 3) = -1) ∧ (k ≠ 1 → gI σ' 307601 0 (4 * nA R) = -1 ∧ gI σ' 307601 0 (4 * nA R + 1) = nI a ∧ gI σ' 307601 0 (4 * nA R + 2) = nI b ∧ gI σ' 307601 0 (4 * nA R + 3) = nI y)) : HM σ' 0 (RA R k a b y) := by
  have e := has_e R k a b y
  have ex := fun x (h0 : x ≠ 0) (h1 : x ≠ 12) (h2 : x ≠ 13) (h3 : x ≠ 14) (h4 : x ≠ 15) j => RA_x R k a b y h0 h1 h2 h3 h4 j
  obtain ⟨m1, m2, m3, m4, m5, m6, m7, m8⟩ := h
  refine ⟨fun j hj9 => ?_, ?_, ?_, ?_, ?_, ?_, ?_, ?_⟩
  · show gI σ' 23385 0 j = _
    by_cases hj8 : j = 8
    · subst hj8
      rw [h8, RA_0, if_pos rfl]
    · rw [ho j hj8, e j hj9 hj8]
      exact m1 j hj9
  · rw [hf.i rfl, m2]
    exact congrArg nI (show R 0 9 = RA R k a b y 0 9 by rw [RA_0, if_neg (by omega)])
  · intro p hp
    have hp : p < nP R := Nat.lt_of_lt_of_eq hp (e 3 (by omega) (by omega))
    show gI σ' 31073 0 (2 * p) = nI (RA R k a b y 1 p) ∧ gI σ' 31073 0 (2 * p + 1) = nI (RA R k a b y 2 p)
    rw [ex 1 (by omega) (by omega) (by omega) (by omega) (by omega), ex 2 (by omega) (by omega) (by omega) (by omega) (by omega), hf.i rfl, hf.i rfl]
    exact m3 p hp
  · intro m hm
    have hm : m < nM R := Nat.lt_of_lt_of_eq hm (e 4 (by omega) (by omega))
    show gI σ' 36201 0 (2 * m) = nI (RA R k a b y 3 m) ∧ gI σ' 36201 0 (2 * m + 1) = nI (RA R k a b y 4 m) ∧ gI σ' 18289 0 m = nI (RA R k a b y 5 m)
    rw [ex 3 (by omega) (by omega) (by omega) (by omega) (by omega), ex 4 (by omega) (by omega) (by omega) (by omega) (by omega), ex 5 (by omega) (by omega) (by omega) (by omega) (by omega), hf.i rfl, hf.i rfl, hf.i rfl]
    exact m4 m hm
  · intro f hf'
    have hf' : f < nF R := Nat.lt_of_lt_of_eq hf' (e 5 (by omega) (by omega))
    show gI σ' 31097 0 (2 * f) = nI (RA R k a b y 6 f) ∧ gI σ' 31097 0 (2 * f + 1) = nI (RA R k a b y 7 f)
    rw [ex 6 (by omega) (by omega) (by omega) (by omega) (by omega), ex 7 (by omega) (by omega) (by omega) (by omega) (by omega), hf.i rfl, hf.i rfl]
    exact m5 f hf'
  · intro w hw'
    have hw' : w < nW R := Nat.lt_of_lt_of_eq hw' (e 6 (by omega) (by omega))
    show gI σ' 51585 0 (2 * w) = nI (RA R k a b y 8 w) ∧ gI σ' 51585 0 (2 * w + 1) = nI (RA R k a b y 9 w)
    rw [ex 8 (by omega) (by omega) (by omega) (by omega) (by omega), ex 9 (by omega) (by omega) (by omega) (by omega) (by omega), hf.i rfl, hf.i rfl]
    exact m6 w hw'
  · intro l hl
    have hl : l < nL R := Nat.lt_of_lt_of_eq hl (e 7 (by omega) (by omega))
    show gI σ' 31113 0 (2 * l) = nI (RA R k a b y 10 l) ∧ gI σ' 31113 0 (2 * l + 1) = nI (RA R k a b y 11 l)
    rw [ex 10 (by omega) (by omega) (by omega) (by omega) (by omega), ex 11 (by omega) (by omega) (by omega) (by omega) (by omega), hf.i rfl, hf.i rfl]
    exact m7 l hl
  · intro i hi
    have hi : i < nA R + 1 := Nat.lt_of_lt_of_eq hi (show RA R k a b y 0 8 = nA R + 1 by rw [RA_0, if_pos rfl])
    show (RA R k a b y 12 i = 1 → gI σ' 307601 0 (4 * i) = nI (RA R k a b y 13 i) ∧ gI σ' 307601 0 (4 * i + 3) = -1) ∧ (RA R k a b y 12 i ≠ 1 → gI σ' 307601 0 (4 * i) = -1 ∧ gI σ' 307601 0 (4 * i + 1) = nI (RA R k a b y 13 i) ∧ gI σ' 307601 0 (4 * i + 2) = nI (RA R k a b y 14 i) ∧ gI σ' 307601 0 (4 * i + 3) = nI (RA R k a b y 15 i))
    by_cases hin : i = nA R
    · subst hin
      obtain ⟨r1, r2, r3, r4⟩ := RA_n R k a b y
      rw [r1, r2, r3, r4]
      exact hk
    · obtain ⟨r1, r2, r3, r4⟩ := RA_o R k a b y (i := i) (by omega)
      rw [r1, r2, r3, r4, hj (4 * i) (by omega), hj (4 * i + 1) (by omega), hj (4 * i + 2) (by omega), hj (4 * i + 3) (by omega)]
      exact m8 i (by omega)
/-- images, slots, tape stay over an act -/
theorem JM.ac {σ σ' : St} {S : AZ} {R : RF} (h : JM σ S) (hf : Fr acS σ σ') (hA : ∀ j, 120 ≤ j → gI σ' 307601 0 j = gI σ 307601 0 j) (hR : H0 σ' R) : JM σ' (R, zI S, zk S, zK S, zT S) := by
  refine ⟨hR, fun k hk => ⟨(hf.i rfl).trans (h.2.1 k hk).1, fun q => ⟨((h.2.1 k hk).2 q).1, ?_⟩⟩, fun s hs => ?_, ⟨(hf.i rfl).trans h.2.2.2.1, h.2.2.2.2.1, fun i hi => ⟨(hf.i rfl).trans (h.2.2.2.2.2.1 i hi).1, (h.2.2.2.2.2.1 i hi).2⟩, (hf.i rfl).trans h.2.2.2.2.2.2.1, (hf.i rfl).trans h.2.2.2.2.2.2.2⟩⟩
  · obtain ⟨m1, m2, m3, m4, m5, m6, m7, m8⟩ := ((h.2.1 k hk).2 q).2
    have hb := ((h.2.1 k hk).2 q).1.1
    refine ⟨fun j hj => ?_, ?_, fun p hp => ?_, fun m hm => ?_, fun f hf' => ?_, fun w hw => ?_, fun l hl => ?_, fun i hi => ?_⟩
    · rw [hf.i (by
        show (false || (true && Nat.beq (j + 9 * (1 + k)) 8) || false || scM 23385 0 _) = false
        have : Nat.beq (j + 9 * (1 + k)) 8 = false := by
          cases hz : Nat.beq (j + 9 * (1 + k)) 8
          · rfl
          · have := Nat.eq_of_beq_eq_true hz
            omega
        rw [this]
        rfl)]
      exact m1 j hj
    · rw [hf.i rfl]; exact m2
    · rw [hf.i rfl, hf.i rfl]; exact m3 p hp
    · rw [hf.i rfl, hf.i rfl, hf.i (by
        show (false || false || (true && Nat.ble (m + 7 * (1 + k)) 6) || scM 18289 0 _) = false
        have : Nat.ble (m + 7 * (1 + k)) 6 = false := by
          cases hz : Nat.ble (m + 7 * (1 + k)) 6
          · rfl
          · have := Nat.le_of_ble_eq_true hz
            omega
        rw [this]
        rfl)]
      exact m4 m hm
    · rw [hf.i rfl, hf.i rfl]; exact m5 f hf'
    · rw [hf.i rfl, hf.i rfl]; exact m6 w hw
    · rw [hf.i rfl, hf.i rfl]; exact m7 l hl
    · rw [hA _ (by omega), hA _ (by omega), hA _ (by omega), hA _ (by omega)]; exact m8 i hi
  · obtain ⟨h1, h2, h3, h4⟩ := h.2.2.1 s hs
    refine ⟨h1, h2, fun q => (hf.i rfl).trans (h3 q), fun q => ?_⟩
    obtain ⟨g1, g2, g3⟩ := h4 q
    exact ⟨(hf.i rfl).trans g1, (hf.i rfl).trans g2, fun k hk => (hf.l rfl).trans (g3 k hk)⟩
theorem sc_ac {σ σ' : St} (h : Fr scM σ σ') : Fr acS σ σ' := h.up (fun t i j hq => by
  unfold acS at hq
  simp only [Bool.or_eq_false_iff] at hq
  exact hq.2)
theorem q_30 {k : Nat} (hk : k ≤ 30) : (nI k = (30 : Int32)) = (k = 30) := propext (nI_eq (b := 30) (by omega) (by omega))
def Z_swap (S : AZ) (a1 a2 a3 : Int32) : Int32 × AZ := cond (twB (zR S) a1 a2 && inB a3 (yr (zR S))) (cond (decide (nA (zR S) = 30)) (-5, S) (nI (P0 (RA (zR S) 0 (cl a1) (cl a2) (cl a3)) (yr (zR S)) (cl a1)), (RA (zR S) 0 (cl a1) (cl a2) (cl a3), zI S, zk S, zK S, zT S))) (-2, S)
theorem n_swap {σ : St} {S : AZ} (h : JM σ S) (a1 a2 a3 : Int32) : RMS 363 [vI a1, vI a2, vI a3] σ (vI (Z_swap S a1 a2 a3).1) (Z_swap S a1 a2 a3).2 := by
  have h1 := h.f (thr_F σ)
  have f1 := (thr_F σ).rfs
  have hbb := h.1.b
  unfold Z_swap RMS
  rw [c_M_swap, r_areTwo h1.1, cI_s, tv_ite, r_isAhead h1.1, cI_s, tv_ite, cond_and]
  show ∃ σ', cond (twB (zR S) a1 a2 && inB a3 (yr (zR S))) _ _ = _ ∧ _
  cases hb : twB (zR S) a1 a2 && inB a3 (yr (zR S))
  · exact ⟨_, rfl, f1, h1⟩
  · rw [cond_true, cond_true, ixh8, h1.1.A]
    simp only [q_30 (show nA (zR S) ≤ 30 by omega)]
    by_cases hA : nA (zR S) = 30
    · rw [if_pos hA, decide_eq_true hA]
      exact ⟨_, rfl, f1, h1⟩
    · rw [if_neg hA, decide_eq_false hA, cond_false]
      unfold twB at hb
      simp only [Bool.and_eq_true] at hb
      obtain ⟨a, ha, rfl⟩ := inB_e (by omega) hb.1.1.1
      obtain ⟨b, hb2, rfl⟩ := inB_e (by omega) hb.1.1.2
      obtain ⟨y, hy, rfl⟩ := inB_e (by omega) hb.2
      have hab : a ≠ b := fun z => by
        have := hb.1.2
        rw [z] at this
        simp at this
      obtain ⟨σ2, c2, f2, d8, do8, d1, d2, d3, d4, dj⟩ := s_does h1.1 (show nA (zR S) < 30 by omega) (-1) (nI a) (nI b) (nI y)
      have hW : WF (RA (zR S) 0 a b y) := WF_RA h.1.1 (by omega) (nLN h.1.1 ha) ⟨fun z => by omega, fun _ => ⟨ha, hb2, hab, hy⟩⟩
      have hR : H0 σ2 (RA (zR S) 0 a b y) := ⟨hW, HM_RA h1.1.2 f2 d8 do8 dj ⟨fun z => by omega, fun _ => ⟨d1, d2, d3, d4⟩⟩⟩
      obtain ⟨σ3, c3, f3, v3⟩ := s_laysNow hR
      have hJ2 := h1.ac (do_ac f2) (fun j hj => dj j (by omega)) hR
      rw [cl_n (show a < 2 ^ 31 by omega), cl_n (show b < 2 ^ 31 by omega), cl_n (show y < 2 ^ 31 by omega)]
      refine ⟨σ3, ?_, f1.tr ((do_ac f2).acs.tr f3.rfs), hJ2.f f3⟩
      have hyr : yr (RA (zR S) 0 a b y) = yr (zR S) := has_e (zR S) 0 a b y 0 (by omega) (by omega)
      have hnl : nL (RA (zR S) 0 a b y) = nL (zR S) := has_e (zR S) 0 a b y 7 (by omega) (by omega)
      rw [c2, cV_s, c3, cV_s, cI_Y v3.1, hyr, six_n, nI_add, ix_nI (by omega) (by omega), v3.2.2.1 (yr (zR S)) (by omega) a (by omega)]
def Z_clear (S : AZ) (a1 : Int32) : Int32 × AZ := cond (inB a1 (nF (zR S))) (cond (decide (nA (zR S) = 30)) (-5, S) (cond (fal (zR S) (cl a1)) 0 1, (RA (zR S) 1 (cl a1) 0 0, zI S, zk S, zK S, zT S))) (-2, S)
theorem nFN {R : RF} (h : WF R) {l : Nat} (hl : l < nF R) : 0 < nN R := by
  rcases Nat.eq_zero_or_pos (nN R) with h0 | h0
  · have := (h.2.1 h0).2.2.1
    omega
  · exact h0
theorem n_clear {σ : St} {S : AZ} (h : JM σ S) (a1 : Int32) : RMS 364 [vI a1] σ (vI (Z_clear S a1).1) (Z_clear S a1).2 := by
  have h1 := h.f (thr_F σ)
  have f1 := (thr_F σ).rfs
  have hbb := h.1.b
  unfold Z_clear RMS
  rw [c_M_clear, r_isFlue h1.1, cI_s, tv_ite]
  cases hb : inB a1 (nF (zR S))
  · exact ⟨_, rfl, f1, h1⟩
  · rw [cond_true, cond_true, ixh8, h1.1.A]
    simp only [q_30 (show nA (zR S) ≤ 30 by omega)]
    by_cases hA : nA (zR S) = 30
    · rw [if_pos hA, decide_eq_true hA]
      exact ⟨_, rfl, f1, h1⟩
    · obtain ⟨a, ha, rfl⟩ := inB_e (by omega) hb
      have hF0 : Fr scM (sI σ 96 0 0 0) (sI (sI σ 96 0 0 0) 96 0 26 (nI (bn (fal (zR S)) (nF (zR S))))) := Fr.rf.sI rfl
      have h2 := h1.f hF0
      rw [if_neg hA, decide_eq_false hA, cond_false, cl_n (by omega), s_laysFlues h1.1, cV_s, gI_sIs, s_isBit, cI_s, bit_in (by omega) ha, tv_ite]
      obtain ⟨σ2, c2, f2, d8, do8, d1, d2, d3, d4, dj⟩ := s_does h2.1 (show nA (zR S) < 30 by omega) (nI a) 0 0 (-1)
      have hW : WF (RA (zR S) 1 a 0 0) := WF_RA h.1.1 (by omega) (nFN h.1.1 ha) ⟨fun _ => ha, fun z => absurd rfl z⟩
      have hR : H0 σ2 (RA (zR S) 1 a 0 0) := ⟨hW, HM_RA h2.1.2 f2 d8 do8 dj ⟨fun _ => ⟨d1, d4⟩, fun z => absurd rfl z⟩⟩
      have hJ2 := h2.ac (do_ac f2) (fun j hj => dj j (by omega)) hR
      refine ⟨σ2, ?_, f1.tr (hF0.rfs.tr (do_ac f2).acs), hJ2⟩
      rw [c2, cV_s, cV_s]
      cases fal (zR S) a <;> rfl
/-- fewer acts -/
def RN (R : RF) (n : Nat) : RF := R1 R 0 8 n
theorem RN_0 (R : RF) (n j : Nat) : RN R n 0 j = if j = 8 then n else R 0 j := by
  unfold RN R1
  by_cases h : j = 8
  · rw [if_pos ⟨rfl, h⟩, if_pos h]
  · rw [if_neg (fun z => h z.2), if_neg h]
theorem RN_x (R : RF) (n : Nat) {x : Nat} (hx : x ≠ 0) (j : Nat) : RN R n x j = R x j := by
  unfold RN R1
  rw [if_neg (fun z => hx z.1)]
theorem WF_RN {R : RF} (h : WF R) {n : Nat} (hn : n ≤ nA R) : WF (RN R n) := by
  obtain ⟨hb, ht⟩ := h
  have e : ∀ j, j ≠ 8 → RN R n 0 j = R 0 j := fun j hj => by rw [RN_0, if_neg hj]
  have e8 : RN R n 0 8 = n := by rw [RN_0, if_pos rfl]
  have ex := fun x (hx : x ≠ 0) j => RN_x R n hx j
  refine ⟨?_, ?_⟩
  · show RN R n 0 3 ≤ 6 ∧ RN R n 0 4 ≤ 7 ∧ RN R n 0 5 ≤ 6 ∧ RN R n 0 6 ≤ 10 ∧ RN R n 0 7 ≤ 6 ∧ RN R n 0 8 ≤ 30 ∧ RN R n 0 0 ≤ 12 ∧ RN R n 0 1 ≤ 3 ∧ RN R n 0 2 ≤ 10 ∧ RN R n 0 9 ≤ 700
    rw [e 3 (by omega), e 4 (by omega), e 5 (by omega), e 6 (by omega), e 7 (by omega), e8, e 0 (by omega), e 1 (by omega), e 2 (by omega), e 9 (by omega)]
    exact ⟨hb.1, hb.2.1, hb.2.2.1, hb.2.2.2.1, hb.2.2.2.2.1, Nat.le_trans hn hb.2.2.2.2.2.1, hb.2.2.2.2.2.2⟩
  · simp only [WT, nP, nM, nF, nW, nL, nA, yr, nN, px, py, mx, my, mw, fx, fy, wa, wb, lp, lh, ak, aa, ab, ay, e 3 (by omega), e 4 (by omega), e 5 (by omega), e 6 (by omega), e 7 (by omega), e8, e 0 (by omega), e 9 (by omega), ex 1 (by omega), ex 2 (by omega), ex 3 (by omega), ex 4 (by omega), ex 5 (by omega), ex 6 (by omega), ex 7 (by omega), ex 8 (by omega), ex 9 (by omega), ex 10 (by omega), ex 11 (by omega), ex 12 (by omega), ex 13 (by omega), ex 14 (by omega), ex 15 (by omega)]
    refine ⟨fun z => ?_, ht.2.1, ht.2.2.1, ht.2.2.2.1, ht.2.2.2.2.1, ht.2.2.2.2.2.1, ht.2.2.2.2.2.2.1, fun i hi => ht.2.2.2.2.2.2.2 i (Nat.lt_of_lt_of_le hi hn)⟩
    obtain ⟨z1, z2, z3, z4, z5, z6, z7⟩ := ht.1 z
    exact ⟨z1, z2, z3, z4, z5, by have : n ≤ nA R := hn; omega, z7⟩
theorem HM_RN {σ : St} {R : RF} (h : HM σ 0 R) {n : Nat} (hn : n ≤ nA R) : HM (sI σ 23385 0 8 (nI n)) 0 (RN R n) := by
  have e : ∀ j, j ≠ 8 → RN R n 0 j = R 0 j := fun j hj => by rw [RN_0, if_neg hj]
  have ex := fun x (hx : x ≠ 0) j => RN_x R n hx j
  obtain ⟨m1, m2, m3, m4, m5, m6, m7, m8⟩ := h
  refine ⟨fun j hj9 => ?_, ?_, ?_, ?_, ?_, ?_, ?_, ?_⟩
  · show gI _ 23385 0 j = _
    rw [RN_0]
    by_cases hj8 : j = 8
    · subst hj8
      rw [gI_sIs, if_pos rfl]
    · rw [gI_sIj hj8, if_neg hj8]
      exact m1 j hj9
  · rw [gI_sIn (by decide), m2]
    exact congrArg nI (e 9 (by omega)).symm
  · intro p hp
    have hp : p < nP R := Nat.lt_of_lt_of_eq hp (e 3 (by omega))
    show gI _ 31073 0 (2 * p) = nI (RN R n 1 p) ∧ gI _ 31073 0 (2 * p + 1) = nI (RN R n 2 p)
    rw [ex 1 (by omega), ex 2 (by omega), gI_sIn (by decide), gI_sIn (by decide)]
    exact m3 p hp
  · intro m hm
    have hm : m < nM R := Nat.lt_of_lt_of_eq hm (e 4 (by omega))
    show gI _ 36201 0 (2 * m) = nI (RN R n 3 m) ∧ gI _ 36201 0 (2 * m + 1) = nI (RN R n 4 m) ∧ gI _ 18289 0 m = nI (RN R n 5 m)
    rw [ex 3 (by omega), ex 4 (by omega), ex 5 (by omega), gI_sIn (by decide), gI_sIn (by decide), gI_sIn (by decide)]
    exact m4 m hm
  · intro f hf
    have hf : f < nF R := Nat.lt_of_lt_of_eq hf (e 5 (by omega))
    show gI _ 31097 0 (2 * f) = nI (RN R n 6 f) ∧ gI _ 31097 0 (2 * f + 1) = nI (RN R n 7 f)
    rw [ex 6 (by omega), ex 7 (by omega), gI_sIn (by decide), gI_sIn (by decide)]
    exact m5 f hf
  · intro w hw
    have hw : w < nW R := Nat.lt_of_lt_of_eq hw (e 6 (by omega))
    show gI _ 51585 0 (2 * w) = nI (RN R n 8 w) ∧ gI _ 51585 0 (2 * w + 1) = nI (RN R n 9 w)
    rw [ex 8 (by omega), ex 9 (by omega), gI_sIn (by decide), gI_sIn (by decide)]
    exact m6 w hw
  · intro l hl
    have hl : l < nL R := Nat.lt_of_lt_of_eq hl (e 7 (by omega))
    show gI _ 31113 0 (2 * l) = nI (RN R n 10 l) ∧ gI _ 31113 0 (2 * l + 1) = nI (RN R n 11 l)
    rw [ex 10 (by omega), ex 11 (by omega), gI_sIn (by decide), gI_sIn (by decide)]
    exact m7 l hl
  · intro i hi
    have hi : i < n := Nat.lt_of_lt_of_eq hi (show RN R n 0 8 = n by rw [RN_0, if_pos rfl])
    show (RN R n 12 i = 1 → gI _ 307601 0 (4 * i) = nI (RN R n 13 i) ∧ gI _ 307601 0 (4 * i + 3) = -1) ∧ (RN R n 12 i ≠ 1 → gI _ 307601 0 (4 * i) = -1 ∧ gI _ 307601 0 (4 * i + 1) = nI (RN R n 13 i) ∧ gI _ 307601 0 (4 * i + 2) = nI (RN R n 14 i) ∧ gI _ 307601 0 (4 * i + 3) = nI (RN R n 15 i))
    rw [ex 12 (by omega), ex 13 (by omega), ex 14 (by omega), ex 15 (by omega), gI_sIn (by decide), gI_sIn (by decide), gI_sIn (by decide), gI_sIn (by decide)]
    exact m8 i (by omega)
def Z_undo (S : AZ) : Int32 × AZ := cond (decide (0 < nN (zR S))) (cond (decide (nA (zR S) = 0)) (-5, S) (nI (nA (zR S) - 1), (RN (zR S) (nA (zR S) - 1), zI S, zk S, zK S, zT S))) (-2, S)
theorem n_undo {σ : St} {S : AZ} (h : JM σ S) : RMS 365 [] σ (vI (Z_undo S).1) (Z_undo S).2 := by
  have h1 := h.f (thr_F σ)
  have f1 := (thr_F σ).rfs
  have hbb := h.1.b
  unfold Z_undo RMS
  rw [c_M_undo, r_isRoof h1.1, cI_s, tv_ite]
  cases hb : decide (0 < nN (zR S))
  · exact ⟨_, rfl, f1, h1⟩
  · rw [cond_true, cond_true, ixh8, h1.1.A]
    by_cases hA : nA (zR S) = 0
    · rw [if_pos (by rw [hA]; rfl), decide_eq_true hA]
      exact ⟨_, rfl, f1, h1⟩
    · have e1 : nI (nA (zR S)) - 1 = nI (nA (zR S) - 1) := pk_sub (b := 1) (by omega)
      rw [if_neg (nI_ne0 (by omega) (by omega)), decide_eq_false hA, cond_false, ixh8, ixh8, ixh8, h1.1.A, e1, gI_sIs]
      have hF : Fr acS (sI σ 96 0 0 0) (sI (sI σ 96 0 0 0) 23385 0 8 (nI (nA (zR S) - 1))) := Fr.rf.sI rfl
      exact ⟨_, rfl, f1.tr hF.acs, h1.ac hF (fun j _ => gI_sIn (by decide)) ⟨WF_RN h.1.1 (by omega), HM_RN h1.1.2 (by omega)⟩⟩
def Z_anew (S : AZ) : Int32 × AZ := cond (decide (0 < nN (zR S))) (nI (nA (zR S)), (RN (zR S) 0, zI S, zk S, zK S, zT S)) (-2, S)
theorem n_anew {σ : St} {S : AZ} (h : JM σ S) : RMS 366 [] σ (vI (Z_anew S).1) (Z_anew S).2 := by
  have h1 := h.f (thr_F σ)
  have f1 := (thr_F σ).rfs
  unfold Z_anew RMS
  rw [c_M_anew, r_isRoof h1.1, cI_s, tv_ite]
  cases hb : decide (0 < nN (zR S))
  · exact ⟨_, rfl, f1, h1⟩
  · rw [cond_true, cond_true, ixh8, ixh8, h1.1.A]
    have hF : Fr acS (sI σ 96 0 0 0) (sI (sI σ 96 0 0 0) 23385 0 8 0) := Fr.rf.sI rfl
    exact ⟨_, rfl, f1.tr hF.acs, h1.ac hF (fun j _ => gI_sIn (by decide)) ⟨WF_RN h.1.1 (by omega), HM_RN h1.1.2 (n := 0) (by omega)⟩⟩
