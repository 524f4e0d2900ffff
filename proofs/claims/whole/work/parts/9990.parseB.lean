/-! THE TEXT: lines, pure -/
abbrev PX : Type := (Nat × Nat) ⊕ (Nat × RF)
def th (o : Option (Nat × Nat)) (r : PX) : PX := match o with
  | none => r
  | some e => .inl e
def pbd (r : PX) (f : Nat → RF → PX) : PX := match r with
  | .inl e => .inl e
  | .inr q => f q.1 q.2
def nE (t : TP) (lo hx p : Nat) : Option (Nat × Nat) := cond (Nat.beq (knt t p) 2) (cond (Nat.ble lo (vlt t p) && Nat.blt (vlt t p) hx) none (some (2, stt t p))) (some (1, stt t p))
def wE (t : TP) (k p : Nat) : Option (Nat × Nat) := cond (isW t p k) none (some (1, stt t p))
def sE (t : TP) (p : Nat) : Option (Nat × Nat) := cond (Nat.beq (knt t p) 3) none (some (1, stt t p))
def rE (n most : Nat) (t : TP) (p : Nat) : Option (Nat × Nat) := cond (Nat.beq n most) (some (3, stt t p)) none
def dE (b : Bool) (t : TP) (p : Nat) : Option (Nat × Nat) := cond b (some (2, stt t p)) none
def tkP (n : Nat) (f g : Nat → Nat) (x y : Nat) : Bool := ex (fun k => Nat.beq (f k) x && Nat.beq (g k) y) n
def tkB (R : RF) (x y : Nat) : Bool := tkP (nP R) (px R) (py R) x y || tkP (nM R) (mx R) (my R) x y || tkP (nF R) (fx R) (fy R) x y
/-- one more of a kind -/
def A2 (R : RF) (a b c x y : Nat) : RF := R1 (R1 (R1 R a (R 0 c) x) b (R 0 c) y) 0 c (R 0 c + 1)
abbrev e1 (t : TP) (p : Nat) : Nat := ent t p
abbrev e2 (t : TP) (p : Nat) : Nat := ent t (e1 t p)
abbrev e3 (t : TP) (p : Nat) : Nat := ent t (e2 t p)
abbrev e4 (t : TP) (p : Nat) : Nat := ent t (e3 t p)
abbrev e5 (t : TP) (p : Nat) : Nat := ent t (e4 t p)
abbrev e6 (t : TP) (p : Nat) : Nat := ent t (e5 t p)
abbrev e7 (t : TP) (p : Nat) : Nat := ent t (e6 t p)
def pRf (t : TP) (R : RF) (p : Nat) : PX := th (wE t 8 p) (th (wE t 11 (e1 t p)) (th (nE t 1 13 (e2 t p)) (th (wE t 3 (e3 t p)) (th (nE t 0 4 (e4 t p)) (th (wE t 6 (e5 t p)) (th (nE t 0 11 (e6 t p)) (.inr (e7 t p, R1 (R1 (R1 R 0 0 (vlt t (e2 t p))) 0 1 (vlt t (e4 t p))) 0 2 (vlt t (e6 t p))))))))))
def pPt (t : TP) (R : RF) (a b c p : Nat) : PX := th (nE t 0 31 p) (th (nE t 0 31 (e1 t p)) (th (dE (tkB R (vlt t p) (vlt t (e1 t p))) t (e1 t p)) (.inr (e2 t p, A2 R a b c (vlt t p) (vlt t (e1 t p))))))
def pMk (t : TP) (R : RF) (p : Nat) : PX := th (nE t 0 31 p) (th (nE t 0 31 (e1 t p)) (th (dE (tkB R (vlt t p) (vlt t (e1 t p))) t (e1 t p)) (th (wE t 10 (e2 t p)) (th (nE t 0 100 (e3 t p)) (.inr (e4 t p, R1 (A2 R 3 4 4 (vlt t p) (vlt t (e1 t p))) 5 (nM R) (vlt t (e3 t p))))))))
def pWy (t : TP) (R : RF) (p : Nat) : PX := th (nE t 0 (nP R) p) (th (nE t 0 (nP R) (e1 t p)) (th (dE (Nat.beq (vlt t p) (vlt t (e1 t p))) t (e1 t p)) (.inr (e2 t p, A2 R 8 9 6 (vlt t p) (vlt t (e1 t p))))))
def pLk (t : TP) (R : RF) (p : Nat) : PX := th (wE t 0 p) (th (nE t 0 (nP R) (e1 t p)) (th (dE (ex (fun k => Nat.beq (lp R k) (vlt t (e1 t p))) (nL R)) t (e1 t p)) (th (wE t 2 (e2 t p)) (th (nE t 0 (nM R) (e3 t p)) (.inr (e4 t p, A2 R 10 11 7 (vlt t (e1 t p)) (vlt t (e3 t p))))))))
def pLn (t : TP) (R : RF) (p : Nat) : PX := cond (isW t p 7) (th (rE (nP R) 6 t p) (pPt t R 1 2 3 (e1 t p))) (cond (isW t p 5) (th (rE (nM R) 7 t p) (pMk t R (e1 t p))) (cond (isW t p 1) (th (rE (nF R) 6 t p) (pPt t R 6 7 5 (e1 t p))) (cond (isW t p 9) (th (rE (nW R) 10 t p) (pWy t R (e1 t p))) (cond (isW t p 4) (th (rE (nL R) 6 t p) (pLk t R (e1 t p))) (.inl (1, stt t p))))))
def pLine (t : TP) (p : Nat) (R : RF) : PX := cond (Nat.beq (nN R) 0) (pRf t R p) (pLn t R p)
def pEnd (t : TP) (q : Nat) (R : RF) : PX := th (sE t q) (.inr (ent t q, R1 R 0 9 (nN R + 1)))
def pAll (t : TP) : Nat → Nat → RF → PX
  | 0, p, R => .inr (p, R)
  | k + 1, p, R => cond (Nat.beq (knt t p) 0) (.inr (p, R)) (pbd (pbd (pLine t p R) (pEnd t)) (pAll t k))
theorem th_r {o : Option (Nat × Nat)} {r : PX} {z : Nat × RF} (h : th o r = .inr z) : o = none ∧ r = .inr z := by
  cases o with
  | none => exact ⟨rfl, h⟩
  | some e => cases h
theorem pbd_r {r : PX} {f : Nat → RF → PX} {z : Nat × RF} (h : pbd r f = .inr z) : ∃ q R, r = .inr (q, R) ∧ f q R = .inr z := by
  cases r with
  | inl e => cases h
  | inr q => exact ⟨q.1, q.2, rfl, h⟩
theorem nE_n {t : TP} {lo hx p : Nat} (h : nE t lo hx p = none) : knt t p = 2 ∧ lo ≤ vlt t p ∧ vlt t p < hx := by
  unfold nE at h
  cases hq : Nat.beq (knt t p) 2
  · rw [hq] at h; cases h
  · rw [hq] at h
    cases hq2 : Nat.ble lo (vlt t p) && Nat.blt (vlt t p) hx
    · rw [hq2] at h; cases h
    · rw [Bool.and_eq_true] at hq2
      exact ⟨Nat.eq_of_beq_eq_true hq, Nat.le_of_ble_eq_true hq2.1, Nat.le_of_ble_eq_true hq2.2⟩
theorem wE_n {t : TP} {k p : Nat} (h : wE t k p = none) : isW t p k = true := by
  unfold wE at h
  cases hq : isW t p k
  · rw [hq] at h; cases h
  · rfl
theorem sE_n {t : TP} {p : Nat} (h : sE t p = none) : knt t p = 3 := by
  unfold sE at h
  cases hq : Nat.beq (knt t p) 3
  · rw [hq] at h; cases h
  · exact Nat.eq_of_beq_eq_true hq
theorem rE_n {n most : Nat} {t : TP} {p : Nat} (h : rE n most t p = none) : n ≠ most := by
  unfold rE at h
  cases hq : Nat.beq n most
  · exact Nat.ne_of_beq_eq_false hq
  · rw [hq] at h; cases h
theorem dE_n {b : Bool} {t : TP} {p : Nat} (h : dE b t p = none) : b = false := by
  cases b
  · rfl
  · cases h
theorem en_up {t : TP} {p q : Nat} (h : p ≤ q ∧ q ≤ t.2.1) : p ≤ ent t q ∧ ent t q ≤ t.2.1 := by
  have := ent_le h.2
  omega
/-- a line goes on -/
theorem pLine_q {t : TP} {p : Nat} {R : RF} (hp : p ≤ t.2.1) {q : Nat} {R' : RF} (h : pLine t p R = .inr (q, R')) : p ≤ q ∧ q ≤ t.2.1 := by
  have h0 : p ≤ p ∧ p ≤ t.2.1 := ⟨Nat.le_refl _, hp⟩
  have h1 := en_up h0
  have h2 := en_up h1
  have h3 := en_up h2
  have h4 := en_up h3
  have h5 := en_up h4
  have h6 := en_up h5
  have h7 := en_up h6
  unfold pLine at h
  cases hn : Nat.beq (nN R) 0
  · rw [hn, cond_false] at h
    unfold pLn at h
    cases c1 : isW t p 7
    · rw [c1, cond_false] at h
      cases c2 : isW t p 5
      · rw [c2, cond_false] at h
        cases c3 : isW t p 1
        · rw [c3, cond_false] at h
          cases c4 : isW t p 9
          · rw [c4, cond_false] at h
            cases c5 : isW t p 4
            · rw [c5] at h; cases h
            · rw [c5, cond_true] at h
              have h := (th_r h).2
              have h := (th_r h).2
              have h := (th_r h).2
              have h := (th_r h).2
              have h := (th_r h).2
              have h := (th_r h).2
              cases h
              exact h5
          · rw [c4, cond_true] at h
            have h := (th_r h).2
            have h := (th_r h).2
            have h := (th_r h).2
            have h := (th_r h).2
            cases h
            exact h3
        · rw [c3, cond_true] at h
          have h := (th_r h).2
          have h := (th_r h).2
          have h := (th_r h).2
          have h := (th_r h).2
          cases h
          exact h3
      · rw [c2, cond_true] at h
        have h := (th_r h).2
        have h := (th_r h).2
        have h := (th_r h).2
        have h := (th_r h).2
        have h := (th_r h).2
        have h := (th_r h).2
        cases h
        exact h5
    · rw [c1, cond_true] at h
      have h := (th_r h).2
      have h := (th_r h).2
      have h := (th_r h).2
      have h := (th_r h).2
      cases h
      exact h3
  · rw [hn, cond_true] at h
    have h := (th_r h).2
    have h := (th_r h).2
    have h := (th_r h).2
    have h := (th_r h).2
    have h := (th_r h).2
    have h := (th_r h).2
    have h := (th_r h).2
    cases h
    exact h7
theorem pEnd_q {t : TP} {q : Nat} {R : RF} (hq : q ≤ t.2.1) {q' : Nat} {R' : RF} (h : pEnd t q R = .inr (q', R')) : q < q' ∧ q' ≤ t.2.1 ∧ q' = ent t q ∧ R' = R1 R 0 9 (nN R + 1) := by
  obtain ⟨h1, h2⟩ := th_r h
  have h3 := sE_n h1
  have h4 := ent_le hq
  have h5 := stt_le hq
  cases h2
  exact ⟨by have := h4.2.1 (by omega); omega, h4.1, rfl, rfl⟩
/-! what is told is as it must be -/
theorem A2_0 {R : RF} {a b c x y : Nat} (ha : a ≠ 0) (hb : b ≠ 0) (j : Nat) : A2 R a b c x y 0 j = if j = c then R 0 c + 1 else R 0 j := by
  unfold A2
  rw [R1_a, R1_x _ (fun z => hb z.symm), R1_x _ (fun z => ha z.symm)]
theorem A2_a {R : RF} {a b c x y : Nat} (ha : a ≠ 0) (hab : a ≠ b) (j : Nat) : A2 R a b c x y a j = if j = R 0 c then x else R a j := by
  unfold A2
  rw [R1_x _ ha, R1_x _ hab, R1_a]
theorem A2_b {R : RF} {a b c x y : Nat} (hb : b ≠ 0) (hab : a ≠ b) (j : Nat) : A2 R a b c x y b j = if j = R 0 c then y else R b j := by
  unfold A2
  rw [R1_x _ hb, R1_a, R1_x _ (fun z => hab z.symm)]
theorem A2_d {R : RF} {a b c x y d : Nat} (h0 : d ≠ 0) (ha : d ≠ a) (hb : d ≠ b) (j : Nat) : A2 R a b c x y d j = R d j := by
  unfold A2
  rw [R1_x _ h0, R1_x _ hb, R1_x _ ha]
theorem tk_no {n : Nat} {f g : Nat → Nat} {x y : Nat} (h : tkP n f g x y = false) {k : Nat} (hk : k < n) : ¬ (f k = x ∧ g k = y) := fun z => by
  have := ex_no.mp h k hk
  rw [z.1, z.2, Nat.beq_refl, Nat.beq_refl] at this
  cases this
