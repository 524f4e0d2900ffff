/-! YEARS, purely -/
def sw (g : Nat → Nat) (a b : Nat) : Nat → Nat := fun l => if l = b then g a else if l = a then g b else g l
/-- exchanges of a year, by the first n acts -/
def exn (R : RF) (y : Nat) (f : Nat → Nat) : Nat → Nat → Nat
  | 0 => f
  | n + 1 => cond (!decide (ak R n = 1) && decide (ay R n = y)) (sw (exn R y f n) (aa R n) (ab R n)) (exn R y f n)
def exc (R : RF) (y : Nat) (f : Nat → Nat) : Nat → Nat := exn R y f (nA R)
/-- the best so far of those below n -/
def am (P : Nat → Bool) (lt : Nat → Nat → Bool) : Nat → Option Nat
  | 0 => none
  | n + 1 => match am P lt n with
    | none => cond (P n) (some n) none
    | some b => cond (P n && lt b n) (some n) (some b)
def oI (o : Option Nat) : Int32 := match o with
  | none => -1
  | some k => nI k
theorem am_in {P : Nat → Bool} {lt : Nat → Nat → Bool} : ∀ {n b : Nat}, am P lt n = some b → b < n ∧ P b = true
  | 0, b, h => by cases h
  | n + 1, b, h => by
    have h : (match am P lt n with
      | none => cond (P n) (some n) none
      | some b => cond (P n && lt b n) (some n) (some b)) = some b := h
    cases hq : am P lt n with
    | none =>
      rw [hq] at h
      cases hp : P n
      · rw [hp] at h; cases h
      · rw [hp] at h
        cases h
        exact ⟨by omega, hp⟩
    | some c =>
      rw [hq] at h
      have ih := am_in hq
      cases hp : P n && lt c n
      · simp only [hp, cond_false] at h
        cases h
        exact ⟨by omega, ih.2⟩
      · simp only [hp, cond_true] at h
        cases h
        rw [Bool.and_eq_true] at hp
        exact ⟨by omega, hp.1⟩
theorem am_congr {P Q : Nat → Bool} {lt gt : Nat → Nat → Bool} : ∀ {n : Nat}, (∀ k, k < n → P k = Q k) → (∀ a b, a < n → b < n → lt a b = gt a b) → am P lt n = am Q gt n
  | 0, _, _ => rfl
  | n + 1, h1, h2 => by
    have ih := am_congr (n := n) (P := P) (Q := Q) (lt := lt) (gt := gt) (fun k hk => h1 k (by omega)) (fun a b ha hb => h2 a b (by omega) (by omega))
    show (match am P lt n with
      | none => cond (P n) (some n) none
      | some b => cond (P n && lt b n) (some n) (some b)) = (match am Q gt n with
      | none => cond (Q n) (some n) none
      | some b => cond (Q n && gt b n) (some n) (some b))
    rw [ih, h1 n (by omega)]
    cases hq : am Q gt n with
    | none => rfl
    | some c =>
      have := (am_in hq).1
      show cond (Q n && lt c n) _ _ = cond (Q n && gt c n) _ _
      rw [h2 c n (by omega) (by omega)]
/-- the next place of some behind one, round -/
def nx (S : Nat → Bool) (n p : Nat) : Nat := cond (decide (fr (fun k => S ((p + k) % n)) n 1 < 1 + n)) ((p + fr (fun k => S ((p + k) % n)) n 1) % n) p
theorem nx_congr {S Q : Nat → Bool} {n p : Nat} (hn : 0 < n) (h : ∀ k, k < n → S k = Q k) : nx S n p = nx Q n p := by
  unfold nx
  rw [fr_congr (P := fun k => S ((p + k) % n)) (Q := fun k => Q ((p + k) % n)) (fun j _ _ => h _ (Nat.mod_lt _ hn))]
theorem nx_lt {S : Nat → Bool} {n p : Nat} (hp : p < n) : nx S n p < n := by
  unfold nx
  cases decide (fr (fun k => S ((p + k) % n)) n 1 < 1 + n)
  · exact hp
  · exact Nat.mod_lt _ (by omega)
def nxc1 (n : Nat) : Bool := (List.range 64).all (fun x => (List.range n).all (fun a => !(Nat.testBit x a) || Nat.testBit x (nx (Nat.testBit x) n a)))
def nxc2 (n : Nat) : Bool := (List.range 64).all (fun x => (List.range n).all (fun a => (List.range n).all (fun b => !(Nat.testBit x a) || !(Nat.testBit x b) || !(Nat.beq (nx (Nat.testBit x) n a) (nx (Nat.testBit x) n b)) || Nat.beq a b)))
theorem nx_d1 : ∀ n, n < 7 → nxc1 n = true := by decide +kernel
theorem nx_d2 : ∀ n, n < 7 → nxc2 n = true := by decide +kernel
theorem nx_dec {n x a : Nat} (hn : n < 7) (hx : x < 64) (ha : a < n) (h : Nat.testBit x a = true) : Nat.testBit x (nx (Nat.testBit x) n a) = true := by
  have := List.all_eq_true.mp (List.all_eq_true.mp (nx_d1 n hn) x (List.mem_range.mpr hx)) a (List.mem_range.mpr ha)
  rw [h] at this
  exact this
theorem nx_dei {n x a b : Nat} (hn : n < 7) (hx : x < 64) (ha : a < n) (hb : b < n) (h : Nat.testBit x a = true) (h' : Nat.testBit x b = true) (e : nx (Nat.testBit x) n a = nx (Nat.testBit x) n b) : a = b := by
  have := List.all_eq_true.mp (List.all_eq_true.mp (List.all_eq_true.mp (nx_d2 n hn) x (List.mem_range.mpr hx)) a (List.mem_range.mpr ha)) b (List.mem_range.mpr hb)
  rw [h, h', e, Nat.beq_refl] at this
  exact Nat.eq_of_beq_eq_true this
theorem nx_tb {S : Nat → Bool} {n p : Nat} (hp : p < n) : nx S n p = nx (Nat.testBit (bn S n)) n p := nx_congr (by omega) (fun k hk => by rw [bn_tb, decide_eq_true hk]; rfl)
theorem nx_in {S : Nat → Bool} {n p : Nat} (hn : n ≤ 6) (hp : p < n) (h : S p = true) : S (nx S n p) = true := by
  have h1 := nx_dec (x := bn S n) (show n < 7 by omega) (bn_le hn) hp (by rw [bn_tb, decide_eq_true hp]; exact h)
  rw [← nx_tb hp, bn_tb, decide_eq_true (nx_lt hp)] at h1
  exact h1
theorem nx_inj {S : Nat → Bool} {n p q : Nat} (hn : n ≤ 6) (hp : p < n) (hq : q < n) (h : S p = true) (h' : S q = true) (e : nx S n p = nx S n q) : p = q := by
  refine nx_dei (x := bn S n) (show n < 7 by omega) (bn_le hn) hp hq (by rw [bn_tb, decide_eq_true hp]; exact h) (by rw [bn_tb, decide_eq_true hq]; exact h') ?_
  rw [← nx_tb hp, ← nx_tb hq]
  exact e
/-- who does not see what he hopes for; where such are -/
def un (R : RF) (s : Nat → Nat → Bool) (f : Nat → Nat) (l : Nat) : Bool := !s (f l) (lh R l)
def uS (R : RF) (s : Nat → Nat → Bool) (f : Nat → Nat) (p : Nat) : Bool := ex (fun l => un R s f l && decide (f l = p)) (nL R)
def mo2 (R : RF) (s : Nat → Nat → Bool) (f : Nat → Nat) : Nat → Nat := match am (fun _ => true) (fun b l => decide (wth R (s (f b)) < wth R (s (f l)))) (nL R) with
  | none => f
  | some a => match am (fun l => !decide (l = a)) (fun b l => decide (wth R (s (f l)) < wth R (s (f b)))) (nL R) with
    | none => f
    | some b => sw f a b
/-- moved by a law -/
def mv (R : RF) (s : Nat → Nat → Bool) (law : Nat) (f : Nat → Nat) : Nat → Nat := match law with
  | 0 => fun l => nx (fun _ => true) (nP R) (f l)
  | 1 => fun l => (f l + nP R - 1) % nP R
  | 2 => mo2 R s f
  | _ => fun l => cond (un R s f l) (nx (uS R s f) (nP R) (f l)) (f l)
/-- where they are, year by year, moved in the years that mg names -/
def ps (R : RF) (s : Nat → Nat → Bool) (law : Nat) (mg : Nat → Bool) (f : Nat → Nat) : Nat → Nat → Nat
  | 0 => exc R 0 f
  | y + 1 => exc R (y + 1) (cond (mg y) (mv R s law (ps R s law mg f y)) (ps R s law mg f y))
/-- places, no two alike -/
def VP (R : RF) (f : Nat → Nat) : Prop := (∀ l, l < nL R → f l < nP R) ∧ ∀ l k, l < nL R → k < nL R → f l = f k → l = k
theorem vp_sw {R : RF} {f : Nat → Nat} {a b : Nat} (h : VP R f) (ha : a < nL R) (hb : b < nL R) : VP R (sw f a b) := by
  unfold sw
  refine ⟨fun l hl => ?_, fun l k hl hk e => ?_⟩
  · dsimp only
    split
    · exact h.1 a ha
    · split
      · exact h.1 b hb
      · exact h.1 l hl
  · have g1 := h.2 a b ha hb
    have g2 := h.2 l k hl hk
    have g3 := h.2 a k ha hk
    have g4 := h.2 b k hb hk
    have g5 := h.2 l a hl ha
    have g6 := h.2 l b hl hb
    have g7 := h.2 b a hb ha
    dsimp only at e
    split at e <;> split at e <;> (try split at e) <;> (try split at e) <;> (try omega)
theorem vp_exn {R : RF} (hw : WF R) {f : Nat → Nat} (h : VP R f) (y : Nat) : ∀ n, n ≤ nA R → VP R (exn R y f n)
  | 0, _ => h
  | n + 1, hn => by
    have ih := vp_exn hw h y n (by omega)
    have ha := (hw.2.2.2.2.2.2.2.2 n (by omega)).2
    show VP R (cond (!decide (ak R n = 1) && decide (ay R n = y)) (sw (exn R y f n) (aa R n) (ab R n)) (exn R y f n))
    by_cases hk : ak R n = 1
    · rw [decide_eq_true hk]
      exact ih
    · rw [decide_eq_false hk]
      have ha := ha hk
      cases decide (ay R n = y)
      · exact ih
      · exact vp_sw ih ha.1 ha.2.1
theorem vp_exc {R : RF} (hw : WF R) {f : Nat → Nat} (h : VP R f) (y : Nat) : VP R (exc R y f) := vp_exn hw h y (nA R) (Nat.le_refl _)
theorem succ_dec : ∀ n, n < 7 → ∀ a, a < n → ∀ b, b < n → (a + n - 1) % n = (b + n - 1) % n → a = b := by decide
theorem vp_mv {R : RF} (hw : WF R) {f : Nat → Nat} (h : VP R f) (s : Nat → Nat → Bool) (law : Nat) : VP R (mv R s law f) := by
  have hb := hw.1.1
  match law with
  | 0 =>
    show VP R (fun l => nx (fun _ => true) (nP R) (f l))
    exact ⟨fun l hl => nx_lt (h.1 l hl), fun l k hl hk e => h.2 l k hl hk (nx_inj (S := fun _ => true) hb (h.1 l hl) (h.1 k hk) rfl rfl e)⟩
  | 1 =>
    show VP R (fun l => (f l + nP R - 1) % nP R)
    exact ⟨fun l hl => Nat.mod_lt _ (by have := h.1 l hl; omega), fun l k hl hk e => h.2 l k hl hk (succ_dec (nP R) (by omega) _ (h.1 l hl) _ (h.1 k hk) e)⟩
  | 2 =>
    show VP R (mo2 R s f)
    unfold mo2
    split
    · exact h
    · next a ha =>
      split
      · exact h
      · next b hb => exact vp_sw h (am_in ha).1 (am_in hb).1
  | n + 3 =>
    have hu : ∀ l, l < nL R → un R s f l = true → uS R s f (f l) = true := fun l hl hq => ex_iff.mpr ⟨l, hl, by rw [hq, decide_eq_true rfl]; rfl⟩
    have hv : ∀ l, l < nL R → uS R s f (f l) = true → un R s f l = true := fun l hl hq => by
      obtain ⟨k, h1, h2⟩ := ex_iff.mp hq
      rw [Bool.and_eq_true] at h2
      have := h.2 k l h1 hl (of_decide_eq_true h2.2)
      rw [← this]
      exact h2.1
    show VP R (fun l => cond (un R s f l) (nx (uS R s f) (nP R) (f l)) (f l))
    refine ⟨fun l hl => ?_, fun l k hl hk e => ?_⟩
    · show cond (un R s f l) (nx (uS R s f) (nP R) (f l)) (f l) < nP R
      cases un R s f l
      · exact h.1 l hl
      · exact nx_lt (h.1 l hl)
    · have e : cond (un R s f l) (nx (uS R s f) (nP R) (f l)) (f l) = cond (un R s f k) (nx (uS R s f) (nP R) (f k)) (f k) := e
      cases h1 : un R s f l
      · cases h2 : un R s f k
        · rw [h1, h2] at e
          exact h.2 l k hl hk e
        · rw [h1, h2] at e
          have e : f l = nx (uS R s f) (nP R) (f k) := e
          have h3 := nx_in hb (h.1 k hk) (hu k hk h2)
          rw [← e] at h3
          rw [hv l hl h3] at h1
          cases h1
      · cases h2 : un R s f k
        · rw [h1, h2] at e
          have e : nx (uS R s f) (nP R) (f l) = f k := e
          have h3 := nx_in hb (h.1 l hl) (hu l hl h1)
          rw [e] at h3
          rw [hv k hk h3] at h2
          cases h2
        · rw [h1, h2] at e
          exact h.2 l k hl hk (nx_inj hb (h.1 l hl) (h.1 k hk) (hu l hl h1) (hu k hk h2) e)
theorem vp_ps {R : RF} (hw : WF R) {f : Nat → Nat} (h : VP R f) (s : Nat → Nat → Bool) (law : Nat) (mg : Nat → Bool) : ∀ y, VP R (ps R s law mg f y)
  | 0 => vp_exc hw h 0
  | y + 1 => by
    have ih := vp_ps hw h s law mg y
    show VP R (exc R (y + 1) (cond (mg y) (mv R s law (ps R s law mg f y)) (ps R s law mg f y)))
    cases mg y
    · exact vp_exc hw ih _
    · exact vp_exc hw (vp_mv hw ih s law) _
theorem vp_told {R : RF} (hw : WF R) : VP R (lp R) := ⟨fun l hl => (hw.2.2.2.2.2.2.1 l hl).1, hw.2.2.2.2.2.2.2.1⟩
/-- in the last year nobody is exchanged -/
theorem exc_last {R : RF} (hw : WF R) (f : Nat → Nat) {y : Nat} (hy : yr R ≤ y) : exc R y f = f := by
  have : ∀ n, n ≤ nA R → exn R y f n = f := by
    intro n
    induction n with
    | zero => intro _; rfl
    | succ n ih =>
      intro hn
      show cond (!decide (ak R n = 1) && decide (ay R n = y)) (sw (exn R y f n) (aa R n) (ab R n)) (exn R y f n) = f
      rw [ih (by omega)]
      by_cases hk : ak R n = 1
      · rw [decide_eq_true hk]; rfl
      · have := ((hw.2.2.2.2.2.2.2.2 n (by omega)).2 hk).2.2.2
        rw [decide_eq_false (show ¬ ay R n = y by omega), Bool.and_false]
        rfl
  exact this _ (Nat.le_refl _)
