/-! THE REFERENCE: lines -/
def dfS (t _i j : Nat) : Bool := (Nat.beq t 2897 && Nat.beq j 4) || (Nat.beq t 23385 && Nat.ble 36 j) || (Nat.beq t 31073 && Nat.ble 48 j) || (Nat.beq t 36201 && Nat.ble 56 j) || (Nat.beq t 18289 && Nat.ble 28 j) || (Nat.beq t 31097 && Nat.ble 48 j) || (Nat.beq t 51585 && Nat.ble 80 j) || (Nat.beq t 31113 && Nat.ble 48 j)
def pcS (t i j : Nat) : Bool := pmS t i j || dfS t i j
theorem ble_f {a b : Nat} (h : b < a) : Nat.ble a b = false := by
  cases hz : Nat.ble a b
  · rfl
  · exact absurd (Nat.le_of_ble_eq_true hz) (by omega)
theorem pm_pc {σ σ' : St} (h : Fr pmS σ σ') : Fr pcS σ σ' := h.up (fun t i j hq => by
  unfold pcS at hq
  rw [Bool.or_eq_false_iff] at hq
  exact hq.1)
theorem pc_m_has {j : Nat} (h : 36 ≤ j) (i : Nat) : pcS 23385 i j = true := by
  unfold pcS dfS
  rw [Nat.ble_eq_true_of_le h]
  rfl
theorem pcn_m_has {j : Nat} (h : j < 36) (i : Nat) : pcS 23385 i j = false := by
  unfold pcS dfS
  rw [ble_f h]
  rfl
theorem pc_m_placeXY {j : Nat} (h : 48 ≤ j) (i : Nat) : pcS 31073 i j = true := by
  unfold pcS dfS
  rw [Nat.ble_eq_true_of_le h]
  rfl
theorem pcn_m_placeXY {j : Nat} (h : j < 48) (i : Nat) : pcS 31073 i j = false := by
  unfold pcS dfS
  rw [ble_f h]
  rfl
theorem pc_m_markXY {j : Nat} (h : 56 ≤ j) (i : Nat) : pcS 36201 i j = true := by
  unfold pcS dfS
  rw [Nat.ble_eq_true_of_le h]
  rfl
theorem pcn_m_markXY {j : Nat} (h : j < 56) (i : Nat) : pcS 36201 i j = false := by
  unfold pcS dfS
  rw [ble_f h]
  rfl
theorem pc_m_markWorth {j : Nat} (h : 28 ≤ j) (i : Nat) : pcS 18289 i j = true := by
  unfold pcS dfS
  rw [Nat.ble_eq_true_of_le h]
  rfl
theorem pcn_m_markWorth {j : Nat} (h : j < 28) (i : Nat) : pcS 18289 i j = false := by
  unfold pcS dfS
  rw [ble_f h]
  rfl
theorem pc_m_flueXY {j : Nat} (h : 48 ≤ j) (i : Nat) : pcS 31097 i j = true := by
  unfold pcS dfS
  rw [Nat.ble_eq_true_of_le h]
  rfl
theorem pcn_m_flueXY {j : Nat} (h : j < 48) (i : Nat) : pcS 31097 i j = false := by
  unfold pcS dfS
  rw [ble_f h]
  rfl
theorem pc_m_way {j : Nat} (h : 80 ≤ j) (i : Nat) : pcS 51585 i j = true := by
  unfold pcS dfS
  rw [Nat.ble_eq_true_of_le h]
  rfl
theorem pcn_m_way {j : Nat} (h : j < 80) (i : Nat) : pcS 51585 i j = false := by
  unfold pcS dfS
  rw [ble_f h]
  rfl
theorem pc_m_man {j : Nat} (h : 48 ≤ j) (i : Nat) : pcS 31113 i j = true := by
  unfold pcS dfS
  rw [Nat.ble_eq_true_of_le h]
  rfl
theorem pcn_m_man {j : Nat} (h : j < 48) (i : Nat) : pcS 31113 i j = false := by
  unfold pcS dfS
  rw [ble_f h]
  rfl
theorem ap_m_placeXY {σ σ' : St} (h : Fr (apS 31073 48) σ σ') : Fr pcS σ σ' := h.up (fun t i j hq => by
  cases hz : apS 31073 48 t i j
  · rfl
  · unfold apS at hz
    rw [Bool.or_eq_true] at hz
    rcases hz with hz | hz
    · unfold pcS at hq
      rw [hz] at hq
      cases hq
    · rw [Bool.and_eq_true] at hz
      rw [Nat.eq_of_beq_eq_true hz.1, pc_m_placeXY (Nat.le_of_ble_eq_true hz.2)] at hq
      cases hq)
theorem ap_m_markXY {σ σ' : St} (h : Fr (apS 36201 56) σ σ') : Fr pcS σ σ' := h.up (fun t i j hq => by
  cases hz : apS 36201 56 t i j
  · rfl
  · unfold apS at hz
    rw [Bool.or_eq_true] at hz
    rcases hz with hz | hz
    · unfold pcS at hq
      rw [hz] at hq
      cases hq
    · rw [Bool.and_eq_true] at hz
      rw [Nat.eq_of_beq_eq_true hz.1, pc_m_markXY (Nat.le_of_ble_eq_true hz.2)] at hq
      cases hq)
theorem ap_m_flueXY {σ σ' : St} (h : Fr (apS 31097 48) σ σ') : Fr pcS σ σ' := h.up (fun t i j hq => by
  cases hz : apS 31097 48 t i j
  · rfl
  · unfold apS at hz
    rw [Bool.or_eq_true] at hz
    rcases hz with hz | hz
    · unfold pcS at hq
      rw [hz] at hq
      cases hq
    · rw [Bool.and_eq_true] at hz
      rw [Nat.eq_of_beq_eq_true hz.1, pc_m_flueXY (Nat.le_of_ble_eq_true hz.2)] at hq
      cases hq)
theorem pcn_lines {j : Nat} (h : j < 4) (i : Nat) : pcS 2897 i j = false := by
  have : Nat.beq j 4 = false := by
    cases hz : Nat.beq j 4
    · rfl
    · exact absurd (Nat.eq_of_beq_eq_true hz) (by omega)
  unfold pcS dfS
  rw [this]
  rfl
/-- other roofs stay -/
theorem HM_pc {σ σ' : St} {c : Nat} {R : RF} (hc : c < 4) (hW : WB R) (h : HM σ c R) (hf : Fr pcS σ σ') : HM σ' c R := by
  unfold WB at hW
  obtain ⟨h1, h2, h3, h4, h5, h6, h7, h8⟩ := h
  refine ⟨fun j hj => ?_, ?_, fun p hp => ⟨?_, ?_⟩, fun m hm => ⟨?_, ?_, ?_⟩, fun f hf' => ⟨?_, ?_⟩, fun w hw => ⟨?_, ?_⟩, fun l hl => ⟨?_, ?_⟩, fun i hi => ?_⟩
  · rw [hf.i (pcn_m_has (by omega) 0)]; exact h1 j hj
  · rw [hf.i (pcn_lines hc 0)]; exact h2
  · rw [hf.i (pcn_m_placeXY (by omega) 0)]; exact (h3 p hp).1
  · rw [hf.i (pcn_m_placeXY (by omega) 0)]; exact (h3 p hp).2
  · rw [hf.i (pcn_m_markXY (by omega) 0)]; exact (h4 m hm).1
  · rw [hf.i (pcn_m_markXY (by omega) 0)]; exact (h4 m hm).2.1
  · rw [hf.i (pcn_m_markWorth (by omega) 0)]; exact (h4 m hm).2.2
  · rw [hf.i (pcn_m_flueXY (by omega) 0)]; exact (h5 f hf').1
  · rw [hf.i (pcn_m_flueXY (by omega) 0)]; exact (h5 f hf').2
  · rw [hf.i (pcn_m_way (by omega) 0)]; exact (h6 w hw).1
  · rw [hf.i (pcn_m_way (by omega) 0)]; exact (h6 w hw).2
  · rw [hf.i (pcn_m_man (by omega) 0)]; exact (h7 l hl).1
  · rw [hf.i (pcn_m_man (by omega) 0)]; exact (h7 l hl).2
  · rw [hf.i rfl, hf.i rfl, hf.i rfl, hf.i rfl]; exact h8 i hi
theorem HM_aP {σ σ' : St} {R : RF} {x y : Nat} (h : HM σ 4 R) (e1 : ∀ j, gI σ' 23385 0 j = if j = 39 then nI (nP R + 1) else gI σ 23385 0 j) (e2 : ∀ j, gI σ' 31073 0 j = if j = 2 * (24 + nP R) + 1 then nI y else if j = 2 * (24 + nP R) then nI x else gI σ 31073 0 j) (e3 : ∀ j, gI σ' 2897 0 j = gI σ 2897 0 j ∧ gI σ' 36201 0 j = gI σ 36201 0 j ∧ gI σ' 18289 0 j = gI σ 18289 0 j ∧ gI σ' 31097 0 j = gI σ 31097 0 j ∧ gI σ' 51585 0 j = gI σ 51585 0 j ∧ gI σ' 31113 0 j = gI σ 31113 0 j ∧ gI σ' 307601 0 j = gI σ 307601 0 j) : HM σ' 4 (A2 R 1 2 3 x y) := by
  obtain ⟨h1, h2, h3, h4, h5, h6, h7, h8⟩ := h
  have q : ∀ j, (A2 R 1 2 3 x y) 0 j = if j = 3 then R 0 3 + 1 else R 0 j := fun j => by
    rw [A2_0 (by decide) (by decide)]
  have da : ∀ j, (A2 R 1 2 3 x y) 1 j = if j = nP R then x else R 1 j := fun j => by
    rw [A2_a (by decide) (by decide)]
  have db : ∀ j, (A2 R 1 2 3 x y) 2 j = if j = nP R then y else R 2 j := fun j => by
    rw [A2_b (by decide) (by decide)]
  have dd : ∀ d j, d ≠ 0 → d ≠ 1 → d ≠ 2 → (A2 R 1 2 3 x y) d j = R d j := fun d j g0 g1 g2 => A2_d g0 g1 g2 j
  generalize (A2 R 1 2 3 x y) = Q at q da db dd ⊢
  have k3 : nP Q = nP R + 1 := q 3
  have k4 : nM Q = nM R := q 4
  have k5 : nF Q = nF R := q 5
  have k6 : nW Q = nW R := q 6
  have k7 : nL Q = nL R := q 7
  have k8 : nA Q = nA R := q 8
  have k9 : nN Q = nN R := q 9
  refine ⟨fun j hj => ?_, ?_, fun p hp => ?_, fun m hm => ?_, fun f hf => ?_, fun w hw => ?_, fun l hl => ?_, fun i hi => ?_⟩
  · rw [q, e1]
    by_cases hq : j = 3
    · rw [if_pos (by omega), if_pos hq]
    · rw [if_neg (by omega), if_neg hq]
      exact h1 j hj
  · rw [k9, (e3 _).1]
    exact h2
  · rw [k3] at hp
    show gI σ' 31073 0 (2 * p + 12 * 4) = nI (Q 1 p) ∧ gI σ' 31073 0 (2 * p + 1 + 12 * 4) = nI (Q 2 p)
    rw [da, db, e2, e2]
    by_cases hq : p = nP R
    · rw [if_neg (by omega), if_pos (by omega), if_pos hq, if_pos (by omega), if_pos hq]
      exact ⟨rfl, rfl⟩
    · rw [if_neg (by omega), if_neg (by omega), if_neg hq, if_neg (by omega), if_neg (by omega), if_neg hq]
      exact h3 p (by omega)
  · rw [k4] at hm
    show gI σ' 36201 0 (2 * m + 14 * 4) = nI (Q 3 m) ∧ gI σ' 36201 0 (2 * m + 1 + 14 * 4) = nI (Q 4 m) ∧ gI σ' 18289 0 (m + 7 * 4) = nI (Q 5 m)
    rw [dd 3 m (by decide) (by decide) (by decide), dd 4 m (by decide) (by decide) (by decide), dd 5 m (by decide) (by decide) (by decide), (e3 _).2.1, (e3 _).2.1, (e3 _).2.2.1]
    exact h4 m hm
  · rw [k5] at hf
    show gI σ' 31097 0 (2 * f + 12 * 4) = nI (Q 6 f) ∧ gI σ' 31097 0 (2 * f + 1 + 12 * 4) = nI (Q 7 f)
    rw [dd 6 f (by decide) (by decide) (by decide), dd 7 f (by decide) (by decide) (by decide), (e3 _).2.2.2.1, (e3 _).2.2.2.1]
    exact h5 f hf
  · rw [k6] at hw
    show gI σ' 51585 0 (2 * w + 20 * 4) = nI (Q 8 w) ∧ gI σ' 51585 0 (2 * w + 1 + 20 * 4) = nI (Q 9 w)
    rw [dd 8 w (by decide) (by decide) (by decide), dd 9 w (by decide) (by decide) (by decide), (e3 _).2.2.2.2.1, (e3 _).2.2.2.2.1]
    exact h6 w hw
  · rw [k7] at hl
    show gI σ' 31113 0 (2 * l + 12 * 4) = nI (Q 10 l) ∧ gI σ' 31113 0 (2 * l + 1 + 12 * 4) = nI (Q 11 l)
    rw [dd 10 l (by decide) (by decide) (by decide), dd 11 l (by decide) (by decide) (by decide), (e3 _).2.2.2.2.2.1, (e3 _).2.2.2.2.2.1]
    exact h7 l hl
  · rw [k8] at hi
    rw [(e3 _).2.2.2.2.2.2, (e3 _).2.2.2.2.2.2, (e3 _).2.2.2.2.2.2, (e3 _).2.2.2.2.2.2, show ak Q i = ak R i from dd 12 i (by decide) (by decide) (by decide), show aa Q i = aa R i from dd 13 i (by decide) (by decide) (by decide), show ab Q i = ab R i from dd 14 i (by decide) (by decide) (by decide), show ay Q i = ay R i from dd 15 i (by decide) (by decide) (by decide)]
    exact h8 i hi
theorem HM_aM {σ σ' : St} {R : RF} {x y w : Nat} (h : HM σ 4 R) (e1 : ∀ j, gI σ' 23385 0 j = if j = 40 then nI (nM R + 1) else gI σ 23385 0 j) (e2 : ∀ j, gI σ' 36201 0 j = if j = 2 * (28 + nM R) + 1 then nI y else if j = 2 * (28 + nM R) then nI x else gI σ 36201 0 j) (e4 : ∀ j, gI σ' 18289 0 j = if j = 28 + nM R then nI w else gI σ 18289 0 j) (e3 : ∀ j, gI σ' 2897 0 j = gI σ 2897 0 j ∧ gI σ' 31073 0 j = gI σ 31073 0 j ∧ gI σ' 31097 0 j = gI σ 31097 0 j ∧ gI σ' 51585 0 j = gI σ 51585 0 j ∧ gI σ' 31113 0 j = gI σ 31113 0 j ∧ gI σ' 307601 0 j = gI σ 307601 0 j) : HM σ' 4 (R1 (A2 R 3 4 4 x y) 5 (nM R) w) := by
  obtain ⟨h1, h2, h3, h4, h5, h6, h7, h8⟩ := h
  have q : ∀ j, (R1 (A2 R 3 4 4 x y) 5 (nM R) w) 0 j = if j = 4 then R 0 4 + 1 else R 0 j := fun j => by
    rw [R1_x _ (by decide), A2_0 (by decide) (by decide)]
  have da : ∀ j, (R1 (A2 R 3 4 4 x y) 5 (nM R) w) 3 j = if j = nM R then x else R 3 j := fun j => by
    rw [R1_x _ (by decide), A2_a (by decide) (by decide)]
  have db : ∀ j, (R1 (A2 R 3 4 4 x y) 5 (nM R) w) 4 j = if j = nM R then y else R 4 j := fun j => by
    rw [R1_x _ (by decide), A2_b (by decide) (by decide)]
  have dw : ∀ j, (R1 (A2 R 3 4 4 x y) 5 (nM R) w) 5 j = if j = nM R then w else R 5 j := fun j => by
    rw [R1_a, A2_d (by decide) (by decide) (by decide)]
  have dd : ∀ d j, d ≠ 0 → d ≠ 3 → d ≠ 4 → d ≠ 5 → (R1 (A2 R 3 4 4 x y) 5 (nM R) w) d j = R d j := fun d j g0 g1 g2 g3 => by
    rw [R1_x _ g3, A2_d g0 g1 g2]
  generalize (R1 (A2 R 3 4 4 x y) 5 (nM R) w) = Q at q da db dw dd ⊢
  have k3 : nP Q = nP R := q 3
  have k4 : nM Q = nM R + 1 := q 4
  have k5 : nF Q = nF R := q 5
  have k6 : nW Q = nW R := q 6
  have k7 : nL Q = nL R := q 7
  have k8 : nA Q = nA R := q 8
  have k9 : nN Q = nN R := q 9
  refine ⟨fun j hj => ?_, ?_, fun p hp => ?_, fun m hm => ?_, fun f hf => ?_, fun w hw => ?_, fun l hl => ?_, fun i hi => ?_⟩
  · rw [q, e1]
    by_cases hq : j = 4
    · rw [if_pos (by omega), if_pos hq]
    · rw [if_neg (by omega), if_neg hq]
      exact h1 j hj
  · rw [k9, (e3 _).1]
    exact h2
  · rw [k3] at hp
    show gI σ' 31073 0 (2 * p + 12 * 4) = nI (Q 1 p) ∧ gI σ' 31073 0 (2 * p + 1 + 12 * 4) = nI (Q 2 p)
    rw [dd 1 p (by decide) (by decide) (by decide) (by decide), dd 2 p (by decide) (by decide) (by decide) (by decide), (e3 _).2.1, (e3 _).2.1]
    exact h3 p hp
  · rw [k4] at hm
    show gI σ' 36201 0 (2 * m + 14 * 4) = nI (Q 3 m) ∧ gI σ' 36201 0 (2 * m + 1 + 14 * 4) = nI (Q 4 m) ∧ gI σ' 18289 0 (m + 7 * 4) = nI (Q 5 m)
    rw [da, db, e2, e2, dw, e4]
    by_cases hq : m = nM R
    · rw [if_neg (by omega), if_pos (by omega), if_pos hq, if_pos (by omega), if_pos hq, if_pos (by omega), if_pos hq]
      exact ⟨rfl, rfl, rfl⟩
    · rw [if_neg (by omega), if_neg (by omega), if_neg hq, if_neg (by omega), if_neg (by omega), if_neg hq, if_neg (by omega), if_neg hq]
      exact h4 m (by omega)
  · rw [k5] at hf
    show gI σ' 31097 0 (2 * f + 12 * 4) = nI (Q 6 f) ∧ gI σ' 31097 0 (2 * f + 1 + 12 * 4) = nI (Q 7 f)
    rw [dd 6 f (by decide) (by decide) (by decide) (by decide), dd 7 f (by decide) (by decide) (by decide) (by decide), (e3 _).2.2.1, (e3 _).2.2.1]
    exact h5 f hf
  · rw [k6] at hw
    show gI σ' 51585 0 (2 * w + 20 * 4) = nI (Q 8 w) ∧ gI σ' 51585 0 (2 * w + 1 + 20 * 4) = nI (Q 9 w)
    rw [dd 8 w (by decide) (by decide) (by decide) (by decide), dd 9 w (by decide) (by decide) (by decide) (by decide), (e3 _).2.2.2.1, (e3 _).2.2.2.1]
    exact h6 w hw
  · rw [k7] at hl
    show gI σ' 31113 0 (2 * l + 12 * 4) = nI (Q 10 l) ∧ gI σ' 31113 0 (2 * l + 1 + 12 * 4) = nI (Q 11 l)
    rw [dd 10 l (by decide) (by decide) (by decide) (by decide), dd 11 l (by decide) (by decide) (by decide) (by decide), (e3 _).2.2.2.2.1, (e3 _).2.2.2.2.1]
    exact h7 l hl
  · rw [k8] at hi
    rw [(e3 _).2.2.2.2.2, (e3 _).2.2.2.2.2, (e3 _).2.2.2.2.2, (e3 _).2.2.2.2.2, show ak Q i = ak R i from dd 12 i (by decide) (by decide) (by decide) (by decide), show aa Q i = aa R i from dd 13 i (by decide) (by decide) (by decide) (by decide), show ab Q i = ab R i from dd 14 i (by decide) (by decide) (by decide) (by decide), show ay Q i = ay R i from dd 15 i (by decide) (by decide) (by decide) (by decide)]
    exact h8 i hi
theorem HM_aF {σ σ' : St} {R : RF} {x y : Nat} (h : HM σ 4 R) (e1 : ∀ j, gI σ' 23385 0 j = if j = 41 then nI (nF R + 1) else gI σ 23385 0 j) (e2 : ∀ j, gI σ' 31097 0 j = if j = 2 * (24 + nF R) + 1 then nI y else if j = 2 * (24 + nF R) then nI x else gI σ 31097 0 j) (e3 : ∀ j, gI σ' 2897 0 j = gI σ 2897 0 j ∧ gI σ' 31073 0 j = gI σ 31073 0 j ∧ gI σ' 36201 0 j = gI σ 36201 0 j ∧ gI σ' 18289 0 j = gI σ 18289 0 j ∧ gI σ' 51585 0 j = gI σ 51585 0 j ∧ gI σ' 31113 0 j = gI σ 31113 0 j ∧ gI σ' 307601 0 j = gI σ 307601 0 j) : HM σ' 4 (A2 R 6 7 5 x y) := by
  obtain ⟨h1, h2, h3, h4, h5, h6, h7, h8⟩ := h
  have q : ∀ j, (A2 R 6 7 5 x y) 0 j = if j = 5 then R 0 5 + 1 else R 0 j := fun j => by
    rw [A2_0 (by decide) (by decide)]
  have da : ∀ j, (A2 R 6 7 5 x y) 6 j = if j = nF R then x else R 6 j := fun j => by
    rw [A2_a (by decide) (by decide)]
  have db : ∀ j, (A2 R 6 7 5 x y) 7 j = if j = nF R then y else R 7 j := fun j => by
    rw [A2_b (by decide) (by decide)]
  have dd : ∀ d j, d ≠ 0 → d ≠ 6 → d ≠ 7 → (A2 R 6 7 5 x y) d j = R d j := fun d j g0 g1 g2 => A2_d g0 g1 g2 j
  generalize (A2 R 6 7 5 x y) = Q at q da db dd ⊢
  have k3 : nP Q = nP R := q 3
  have k4 : nM Q = nM R := q 4
  have k5 : nF Q = nF R + 1 := q 5
  have k6 : nW Q = nW R := q 6
  have k7 : nL Q = nL R := q 7
  have k8 : nA Q = nA R := q 8
  have k9 : nN Q = nN R := q 9
  refine ⟨fun j hj => ?_, ?_, fun p hp => ?_, fun m hm => ?_, fun f hf => ?_, fun w hw => ?_, fun l hl => ?_, fun i hi => ?_⟩
  · rw [q, e1]
    by_cases hq : j = 5
    · rw [if_pos (by omega), if_pos hq]
    · rw [if_neg (by omega), if_neg hq]
      exact h1 j hj
  · rw [k9, (e3 _).1]
    exact h2
  · rw [k3] at hp
    show gI σ' 31073 0 (2 * p + 12 * 4) = nI (Q 1 p) ∧ gI σ' 31073 0 (2 * p + 1 + 12 * 4) = nI (Q 2 p)
    rw [dd 1 p (by decide) (by decide) (by decide), dd 2 p (by decide) (by decide) (by decide), (e3 _).2.1, (e3 _).2.1]
    exact h3 p hp
  · rw [k4] at hm
    show gI σ' 36201 0 (2 * m + 14 * 4) = nI (Q 3 m) ∧ gI σ' 36201 0 (2 * m + 1 + 14 * 4) = nI (Q 4 m) ∧ gI σ' 18289 0 (m + 7 * 4) = nI (Q 5 m)
    rw [dd 3 m (by decide) (by decide) (by decide), dd 4 m (by decide) (by decide) (by decide), dd 5 m (by decide) (by decide) (by decide), (e3 _).2.2.1, (e3 _).2.2.1, (e3 _).2.2.2.1]
    exact h4 m hm
  · rw [k5] at hf
    show gI σ' 31097 0 (2 * f + 12 * 4) = nI (Q 6 f) ∧ gI σ' 31097 0 (2 * f + 1 + 12 * 4) = nI (Q 7 f)
    rw [da, db, e2, e2]
    by_cases hq : f = nF R
    · rw [if_neg (by omega), if_pos (by omega), if_pos hq, if_pos (by omega), if_pos hq]
      exact ⟨rfl, rfl⟩
    · rw [if_neg (by omega), if_neg (by omega), if_neg hq, if_neg (by omega), if_neg (by omega), if_neg hq]
      exact h5 f (by omega)
  · rw [k6] at hw
    show gI σ' 51585 0 (2 * w + 20 * 4) = nI (Q 8 w) ∧ gI σ' 51585 0 (2 * w + 1 + 20 * 4) = nI (Q 9 w)
    rw [dd 8 w (by decide) (by decide) (by decide), dd 9 w (by decide) (by decide) (by decide), (e3 _).2.2.2.2.1, (e3 _).2.2.2.2.1]
    exact h6 w hw
  · rw [k7] at hl
    show gI σ' 31113 0 (2 * l + 12 * 4) = nI (Q 10 l) ∧ gI σ' 31113 0 (2 * l + 1 + 12 * 4) = nI (Q 11 l)
    rw [dd 10 l (by decide) (by decide) (by decide), dd 11 l (by decide) (by decide) (by decide), (e3 _).2.2.2.2.2.1, (e3 _).2.2.2.2.2.1]
    exact h7 l hl
  · rw [k8] at hi
    rw [(e3 _).2.2.2.2.2.2, (e3 _).2.2.2.2.2.2, (e3 _).2.2.2.2.2.2, (e3 _).2.2.2.2.2.2, show ak Q i = ak R i from dd 12 i (by decide) (by decide) (by decide), show aa Q i = aa R i from dd 13 i (by decide) (by decide) (by decide), show ab Q i = ab R i from dd 14 i (by decide) (by decide) (by decide), show ay Q i = ay R i from dd 15 i (by decide) (by decide) (by decide)]
    exact h8 i hi
theorem HM_aW {σ σ' : St} {R : RF} {x y : Nat} (h : HM σ 4 R) (e1 : ∀ j, gI σ' 23385 0 j = if j = 42 then nI (nW R + 1) else gI σ 23385 0 j) (e2 : ∀ j, gI σ' 51585 0 j = if j = 2 * (40 + nW R) + 1 then nI y else if j = 2 * (40 + nW R) then nI x else gI σ 51585 0 j) (e3 : ∀ j, gI σ' 2897 0 j = gI σ 2897 0 j ∧ gI σ' 31073 0 j = gI σ 31073 0 j ∧ gI σ' 36201 0 j = gI σ 36201 0 j ∧ gI σ' 18289 0 j = gI σ 18289 0 j ∧ gI σ' 31097 0 j = gI σ 31097 0 j ∧ gI σ' 31113 0 j = gI σ 31113 0 j ∧ gI σ' 307601 0 j = gI σ 307601 0 j) : HM σ' 4 (A2 R 8 9 6 x y) := by
  obtain ⟨h1, h2, h3, h4, h5, h6, h7, h8⟩ := h
  have q : ∀ j, (A2 R 8 9 6 x y) 0 j = if j = 6 then R 0 6 + 1 else R 0 j := fun j => by
    rw [A2_0 (by decide) (by decide)]
  have da : ∀ j, (A2 R 8 9 6 x y) 8 j = if j = nW R then x else R 8 j := fun j => by
    rw [A2_a (by decide) (by decide)]
  have db : ∀ j, (A2 R 8 9 6 x y) 9 j = if j = nW R then y else R 9 j := fun j => by
    rw [A2_b (by decide) (by decide)]
  have dd : ∀ d j, d ≠ 0 → d ≠ 8 → d ≠ 9 → (A2 R 8 9 6 x y) d j = R d j := fun d j g0 g1 g2 => A2_d g0 g1 g2 j
  generalize (A2 R 8 9 6 x y) = Q at q da db dd ⊢
  have k3 : nP Q = nP R := q 3
  have k4 : nM Q = nM R := q 4
  have k5 : nF Q = nF R := q 5
  have k6 : nW Q = nW R + 1 := q 6
  have k7 : nL Q = nL R := q 7
  have k8 : nA Q = nA R := q 8
  have k9 : nN Q = nN R := q 9
  refine ⟨fun j hj => ?_, ?_, fun p hp => ?_, fun m hm => ?_, fun f hf => ?_, fun w hw => ?_, fun l hl => ?_, fun i hi => ?_⟩
  · rw [q, e1]
    by_cases hq : j = 6
    · rw [if_pos (by omega), if_pos hq]
    · rw [if_neg (by omega), if_neg hq]
      exact h1 j hj
  · rw [k9, (e3 _).1]
    exact h2
  · rw [k3] at hp
    show gI σ' 31073 0 (2 * p + 12 * 4) = nI (Q 1 p) ∧ gI σ' 31073 0 (2 * p + 1 + 12 * 4) = nI (Q 2 p)
    rw [dd 1 p (by decide) (by decide) (by decide), dd 2 p (by decide) (by decide) (by decide), (e3 _).2.1, (e3 _).2.1]
    exact h3 p hp
  · rw [k4] at hm
    show gI σ' 36201 0 (2 * m + 14 * 4) = nI (Q 3 m) ∧ gI σ' 36201 0 (2 * m + 1 + 14 * 4) = nI (Q 4 m) ∧ gI σ' 18289 0 (m + 7 * 4) = nI (Q 5 m)
    rw [dd 3 m (by decide) (by decide) (by decide), dd 4 m (by decide) (by decide) (by decide), dd 5 m (by decide) (by decide) (by decide), (e3 _).2.2.1, (e3 _).2.2.1, (e3 _).2.2.2.1]
    exact h4 m hm
  · rw [k5] at hf
    show gI σ' 31097 0 (2 * f + 12 * 4) = nI (Q 6 f) ∧ gI σ' 31097 0 (2 * f + 1 + 12 * 4) = nI (Q 7 f)
    rw [dd 6 f (by decide) (by decide) (by decide), dd 7 f (by decide) (by decide) (by decide), (e3 _).2.2.2.2.1, (e3 _).2.2.2.2.1]
    exact h5 f hf
  · rw [k6] at hw
    show gI σ' 51585 0 (2 * w + 20 * 4) = nI (Q 8 w) ∧ gI σ' 51585 0 (2 * w + 1 + 20 * 4) = nI (Q 9 w)
    rw [da, db, e2, e2]
    by_cases hq : w = nW R
    · rw [if_neg (by omega), if_pos (by omega), if_pos hq, if_pos (by omega), if_pos hq]
      exact ⟨rfl, rfl⟩
    · rw [if_neg (by omega), if_neg (by omega), if_neg hq, if_neg (by omega), if_neg (by omega), if_neg hq]
      exact h6 w (by omega)
  · rw [k7] at hl
    show gI σ' 31113 0 (2 * l + 12 * 4) = nI (Q 10 l) ∧ gI σ' 31113 0 (2 * l + 1 + 12 * 4) = nI (Q 11 l)
    rw [dd 10 l (by decide) (by decide) (by decide), dd 11 l (by decide) (by decide) (by decide), (e3 _).2.2.2.2.2.1, (e3 _).2.2.2.2.2.1]
    exact h7 l hl
  · rw [k8] at hi
    rw [(e3 _).2.2.2.2.2.2, (e3 _).2.2.2.2.2.2, (e3 _).2.2.2.2.2.2, (e3 _).2.2.2.2.2.2, show ak Q i = ak R i from dd 12 i (by decide) (by decide) (by decide), show aa Q i = aa R i from dd 13 i (by decide) (by decide) (by decide), show ab Q i = ab R i from dd 14 i (by decide) (by decide) (by decide), show ay Q i = ay R i from dd 15 i (by decide) (by decide) (by decide)]
    exact h8 i hi
theorem HM_aL {σ σ' : St} {R : RF} {x y : Nat} (h : HM σ 4 R) (e1 : ∀ j, gI σ' 23385 0 j = if j = 43 then nI (nL R + 1) else gI σ 23385 0 j) (e2 : ∀ j, gI σ' 31113 0 j = if j = 2 * (24 + nL R) + 1 then nI y else if j = 2 * (24 + nL R) then nI x else gI σ 31113 0 j) (e3 : ∀ j, gI σ' 2897 0 j = gI σ 2897 0 j ∧ gI σ' 31073 0 j = gI σ 31073 0 j ∧ gI σ' 36201 0 j = gI σ 36201 0 j ∧ gI σ' 18289 0 j = gI σ 18289 0 j ∧ gI σ' 31097 0 j = gI σ 31097 0 j ∧ gI σ' 51585 0 j = gI σ 51585 0 j ∧ gI σ' 307601 0 j = gI σ 307601 0 j) : HM σ' 4 (A2 R 10 11 7 x y) := by
  obtain ⟨h1, h2, h3, h4, h5, h6, h7, h8⟩ := h
  have q : ∀ j, (A2 R 10 11 7 x y) 0 j = if j = 7 then R 0 7 + 1 else R 0 j := fun j => by
    rw [A2_0 (by decide) (by decide)]
  have da : ∀ j, (A2 R 10 11 7 x y) 10 j = if j = nL R then x else R 10 j := fun j => by
    rw [A2_a (by decide) (by decide)]
  have db : ∀ j, (A2 R 10 11 7 x y) 11 j = if j = nL R then y else R 11 j := fun j => by
    rw [A2_b (by decide) (by decide)]
  have dd : ∀ d j, d ≠ 0 → d ≠ 10 → d ≠ 11 → (A2 R 10 11 7 x y) d j = R d j := fun d j g0 g1 g2 => A2_d g0 g1 g2 j
  generalize (A2 R 10 11 7 x y) = Q at q da db dd ⊢
  have k3 : nP Q = nP R := q 3
  have k4 : nM Q = nM R := q 4
  have k5 : nF Q = nF R := q 5
  have k6 : nW Q = nW R := q 6
  have k7 : nL Q = nL R + 1 := q 7
  have k8 : nA Q = nA R := q 8
  have k9 : nN Q = nN R := q 9
  refine ⟨fun j hj => ?_, ?_, fun p hp => ?_, fun m hm => ?_, fun f hf => ?_, fun w hw => ?_, fun l hl => ?_, fun i hi => ?_⟩
  · rw [q, e1]
    by_cases hq : j = 7
    · rw [if_pos (by omega), if_pos hq]
    · rw [if_neg (by omega), if_neg hq]
      exact h1 j hj
  · rw [k9, (e3 _).1]
    exact h2
  · rw [k3] at hp
    show gI σ' 31073 0 (2 * p + 12 * 4) = nI (Q 1 p) ∧ gI σ' 31073 0 (2 * p + 1 + 12 * 4) = nI (Q 2 p)
    rw [dd 1 p (by decide) (by decide) (by decide), dd 2 p (by decide) (by decide) (by decide), (e3 _).2.1, (e3 _).2.1]
    exact h3 p hp
  · rw [k4] at hm
    show gI σ' 36201 0 (2 * m + 14 * 4) = nI (Q 3 m) ∧ gI σ' 36201 0 (2 * m + 1 + 14 * 4) = nI (Q 4 m) ∧ gI σ' 18289 0 (m + 7 * 4) = nI (Q 5 m)
    rw [dd 3 m (by decide) (by decide) (by decide), dd 4 m (by decide) (by decide) (by decide), dd 5 m (by decide) (by decide) (by decide), (e3 _).2.2.1, (e3 _).2.2.1, (e3 _).2.2.2.1]
    exact h4 m hm
  · rw [k5] at hf
    show gI σ' 31097 0 (2 * f + 12 * 4) = nI (Q 6 f) ∧ gI σ' 31097 0 (2 * f + 1 + 12 * 4) = nI (Q 7 f)
    rw [dd 6 f (by decide) (by decide) (by decide), dd 7 f (by decide) (by decide) (by decide), (e3 _).2.2.2.2.1, (e3 _).2.2.2.2.1]
    exact h5 f hf
  · rw [k6] at hw
    show gI σ' 51585 0 (2 * w + 20 * 4) = nI (Q 8 w) ∧ gI σ' 51585 0 (2 * w + 1 + 20 * 4) = nI (Q 9 w)
    rw [dd 8 w (by decide) (by decide) (by decide), dd 9 w (by decide) (by decide) (by decide), (e3 _).2.2.2.2.2.1, (e3 _).2.2.2.2.2.1]
    exact h6 w hw
  · rw [k7] at hl
    show gI σ' 31113 0 (2 * l + 12 * 4) = nI (Q 10 l) ∧ gI σ' 31113 0 (2 * l + 1 + 12 * 4) = nI (Q 11 l)
    rw [da, db, e2, e2]
    by_cases hq : l = nL R
    · rw [if_neg (by omega), if_pos (by omega), if_pos hq, if_pos (by omega), if_pos hq]
      exact ⟨rfl, rfl⟩
    · rw [if_neg (by omega), if_neg (by omega), if_neg hq, if_neg (by omega), if_neg (by omega), if_neg hq]
      exact h7 l (by omega)
  · rw [k8] at hi
    rw [(e3 _).2.2.2.2.2.2, (e3 _).2.2.2.2.2.2, (e3 _).2.2.2.2.2.2, (e3 _).2.2.2.2.2.2, show ak Q i = ak R i from dd 12 i (by decide) (by decide) (by decide), show aa Q i = aa R i from dd 13 i (by decide) (by decide) (by decide), show ab Q i = ab R i from dd 14 i (by decide) (by decide) (by decide), show ay Q i = ay R i from dd 15 i (by decide) (by decide) (by decide)]
    exact h8 i hi
