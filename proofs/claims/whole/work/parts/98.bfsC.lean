/-! SHIFTS: the distance of a row, and its length -/
/-- the distance of r, e if it has not been visited -/
def dsn (e : Int32) (r : List Nat) : VS → Int32
  | [] => e
  | x :: v => if x.1 = r then nI x.2 else dsn e r v
theorem dsn_no {e : Int32} {r : List Nat} : ∀ {v : VS}, v.any (fun x => decide (x.1 = r)) = false → dsn e r v = e
  | [], _ => rfl
  | x :: v, h => by
    rw [List.any_cons, Bool.or_eq_false_iff] at h
    show (if x.1 = r then nI x.2 else dsn e r v) = e
    rw [if_neg (of_decide_eq_false h.1), dsn_no h.2]
theorem dsn_yes {e : Int32} {r : List Nat} : ∀ {v : VS}, v.any (fun x => decide (x.1 = r)) = true → ∃ x, x ∈ v ∧ x.1 = r ∧ dsn e r v = nI x.2
  | [], h => by cases h
  | x :: v, h => by
    show ∃ y, y ∈ x :: v ∧ y.1 = r ∧ (if x.1 = r then nI x.2 else dsn e r v) = nI y.2
    by_cases h1 : x.1 = r
    · rw [if_pos h1]
      exact ⟨x, List.mem_cons_self, h1, rfl⟩
    · rw [if_neg h1]
      rw [List.any_cons, decide_eq_false h1, Bool.false_or] at h
      obtain ⟨y, g1, g2, g3⟩ := dsn_yes (e := e) h
      exact ⟨y, List.mem_cons_of_mem _ g1, g2, g3⟩
theorem dsn_app {e : Int32} {r r' : List Nat} {d : Nat} : ∀ {v : VS}, v.any (fun x => decide (x.1 = r)) = false → dsn e r' (v ++ [(r, d)]) = if r' = r then nI d else dsn e r' v
  | [], _ => by
    show (if r = r' then nI d else e) = if r' = r then nI d else e
    by_cases h : r' = r
    · rw [if_pos h, if_pos h.symm]
    · rw [if_neg h, if_neg (fun z => h z.symm)]
  | x :: v, h => by
    rw [List.any_cons, Bool.or_eq_false_iff] at h
    have hx := of_decide_eq_false h.1
    show (if x.1 = r' then nI x.2 else dsn e r' (v ++ [(r, d)])) = if r' = r then nI d else (if x.1 = r' then nI x.2 else dsn e r' v)
    rw [dsn_app h.2]
    by_cases h1 : x.1 = r'
    · rw [if_pos h1, if_pos h1, if_neg (fun z => hx (h1.trans z))]
    · rw [if_neg h1, if_neg h1]
/-- no more than 720 rows are visited -/
theorem BV_len {R : RF} (hP : nP R < 7) (hL : nL R < nP R + 1) {v : VS} {c : Nat} (h : BV R v c) : v.length ≤ hmr (nP R) (nL R) := by
  have hlen : (rws (nP R) (nL R) 0).length = hmr (nP R) (nL R) := by
    rw [← rws_n (nP R) hP (nL R) hL, List.length_map, List.length_range]
  have h1 : (v.map (fun x => x.1)).length ≤ (rws (nP R) (nL R) 0).length := h.2.1.length_le_of_subset (fun r hr => by
    obtain ⟨x, hx, e⟩ := List.mem_map.mp hr
    rw [← e]
    exact (h.1 x hx).1)
  rw [List.length_map, hlen] at h1
  exact h1
