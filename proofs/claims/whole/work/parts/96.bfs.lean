/-! SHIFTS: which rows there are -/
theorem rws_mem (P : Nat) : ∀ (k u : Nat) (r : List Nat), r ∈ rws P k u ↔ (r.length = k ∧ (∀ x, x ∈ r → x < P ∧ Nat.testBit u x = false) ∧ r.Nodup)
  | 0, u, r => by
    constructor
    · intro hr
      have : r = [] := List.mem_singleton.mp hr
      subst this
      exact ⟨rfl, fun x hx => (by cases hx), List.nodup_nil⟩
    · intro h
      have : r = [] := List.eq_nil_of_length_eq_zero h.1
      subst this
      exact List.mem_singleton.mpr rfl
  | k + 1, u, r => by
    constructor
    · intro hr
      obtain ⟨p, hp, hr2⟩ := List.mem_flatMap.mp hr
      cases hb : Nat.testBit u p
      · rw [hb, cond_false] at hr2
        obtain ⟨r', h1, h2⟩ := List.mem_map.mp hr2
        subst h2
        obtain ⟨g1, g2, g3⟩ := (rws_mem P k _ r').mp h1
        have g4 : ∀ x, x ∈ r' → Nat.testBit u x = false ∧ p ≠ x := fun x hx => by
          have := (g2 x hx).2
          rw [Nat.testBit_or, Bool.or_eq_false_iff, Nat.testBit_two_pow] at this
          exact ⟨this.1, of_decide_eq_false this.2⟩
        refine ⟨by show r'.length + 1 = k + 1; rw [g1], fun x hx => ?_, List.nodup_cons.mpr ⟨fun hm => (g4 p hm).2 rfl, g3⟩⟩
        cases hx with
        | head => exact ⟨List.mem_range.mp hp, hb⟩
        | tail _ h3 => exact ⟨(g2 x h3).1, (g4 x h3).1⟩
      · rw [hb] at hr2
        cases hr2
    · intro h
      cases r with
      | nil => exact absurd h.1 (by show ¬ 0 = k + 1; omega)
      | cons p r' =>
        obtain ⟨h1, h2, h3⟩ := h
        have hp := h2 p List.mem_cons_self
        have h3 := List.nodup_cons.mp h3
        refine List.mem_flatMap.mpr ⟨p, List.mem_range.mpr hp.1, ?_⟩
        rw [hp.2, cond_false]
        refine List.mem_map.mpr ⟨r', (rws_mem P k _ r').mpr ⟨by have h1 : r'.length + 1 = k + 1 := h1; omega, fun x hx => ?_, h3.2⟩, rfl⟩
        have hx2 := h2 x (List.mem_cons_of_mem _ hx)
        refine ⟨hx2.1, ?_⟩
        rw [Nat.testBit_or, hx2.2, Nat.testBit_two_pow, decide_eq_false (fun z => h3.1 (by rw [z]; exact hx))]
        rfl
abbrev VS : Type := List (List Nat × Nat)
def vst (v : VS) (r : List Nat) (d : Nat) : VS := cond (v.any (fun x => decide (x.1 = r))) v (v ++ [(r, d)])
/-- may man l of this row shift to p -/
def mayB (R : RF) (r : List Nat) (l p : Nat) : Bool := wayB R (r.getD l 0) p && !Nat.testBit (nmt (fun i => r.getD i 0) (nL R)) p
def vsP (R : RF) (r : List Nat) (d l : Nat) : Nat → VS → VS
  | 0, v => v
  | p + 1, v => cond (mayB R r l p) (vst (vsP R r d l p v) (r.set l p) (d + 1)) (vsP R r d l p v)
def vsL (R : RF) (r : List Nat) (d : Nat) : Nat → VS → VS
  | 0, v => v
  | l + 1, v => vsP R r d l (nP R) (vsL R r d l v)
def bfs (R : RF) : Nat → Nat → VS → VS
  | 0, _, v => v
  | k + 1, i, v => if i < v.length then bfs R k (i + 1) (vsL R (v.getD i ([], 0)).1 (v.getD i ([], 0)).2 (nL R) v) else v
/-- what stands at turn i: rows that differ, distances that don't fall -/
def BV (R : RF) (v : VS) (c : Nat) : Prop := (∀ x, x ∈ v → x.1 ∈ rws (nP R) (nL R) 0 ∧ x.2 ≤ c) ∧ (v.map (fun x => x.1)).Nodup ∧ v.Pairwise (fun a b => a.2 ≤ b.2)
theorem BV_vst {R : RF} {v : VS} {c : Nat} (h : BV R v c) {r : List Nat} (hr : r ∈ rws (nP R) (nL R) 0) : BV R (vst v r c) c := by
  unfold vst
  cases hb : v.any (fun x => decide (x.1 = r))
  · rw [cond_false]
    obtain ⟨h1, h2, h3⟩ := h
    refine ⟨fun x hx => ?_, ?_, ?_⟩
    · rcases List.mem_append.mp hx with hx | hx
      · exact h1 x hx
      · have := List.mem_singleton.mp hx
        subst this
        exact ⟨hr, Nat.le_refl _⟩
    · rw [List.map_append]
      refine List.nodup_append.mpr ⟨h2, ?_, fun a ha b hb2 => ?_⟩
      · exact List.nodup_cons.mpr ⟨fun z => (by cases z), List.nodup_nil⟩
      · obtain ⟨x, hx, ex⟩ := List.mem_map.mp ha
        have hb3 : b = r := List.mem_singleton.mp hb2
        subst hb3
        intro he
        have := List.any_eq_false.mp hb x hx
        exact this (decide_eq_true (ex.trans he))
    · refine List.pairwise_append.mpr ⟨h3, List.pairwise_singleton _ _, fun a ha b hb2 => ?_⟩
      have := List.mem_singleton.mp hb2
      subst this
      exact (h1 a ha).2
  · exact h
