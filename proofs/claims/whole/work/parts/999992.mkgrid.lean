/-! THE MAKING: an array of arrays of ints, row by row -/
/-- what the outer array holds after so many rows: they stand behind it -/
def gO (h0 i : Nat) : Nat → Value := fun j => if j < i then .ref (h0 + 1 + j) else .null
/-- the state after so many rows -/
def gS (U : State) (cA cI : ClassId) (N M : Nat) : Nat → State
  | 0 => U.pushCell (arrV cA N (gO U.heap.size 0))
  | i + 1 => ((gS U cA cI N M i).pushCell (arrV cI M (fun _ => .int 0))).setCell U.heap.size (arrV cA N (gO U.heap.size (i + 1)))
theorem gO_next (cA : ClassId) (N h0 i : Nat) : (arrV cA N (gO h0 i)).setSlot i (.ref (h0 + 1 + i)) = arrV cA N (gO h0 (i + 1)) := by
  rw [arrV_store]
  congr 1
  funext j
  unfold updV gO
  by_cases h : j = i
  · subst h
    rw [if_pos rfl, if_pos (Nat.lt_succ_self j)]
  · rw [if_neg h]
    by_cases h2 : j < i
    · rw [if_pos h2, if_pos (by omega)]
    · rw [if_neg h2, if_neg (by omega)]
theorem gS_facts (U : State) (cA cI : ClassId) (N M : Nat) : ∀ i, (gS U cA cI N M i).heap.size = U.heap.size + 1 + i ∧ (gS U cA cI N M i).heap[U.heap.size]? = some (arrV cA N (gO U.heap.size i)) ∧ (gS U cA cI N M i).vm = U.vm ∧ (gS U cA cI N M i).slotsUsed = U.slotsUsed + N + i * M ∧ (∀ q : Nat, q < U.heap.size → (gS U cA cI N M i).heap[q]? = U.heap[q]?) ∧ ∀ j, j < i → (gS U cA cI N M i).heap[U.heap.size + 1 + j]? = some (arrV cI M (fun _ => .int 0))
  | 0 => ⟨by simp [gS], by simp [gS], rfl, by simp [gS, arrV_size], fun q hq => State.heap_pushCell_of_lt _ _ hq, fun j hj => absurd hj (Nat.not_lt_zero _)⟩
  | i + 1 => by
    obtain ⟨a, b, v, u, o, r⟩ := gS_facts U cA cI N M i
    have lt0 : U.heap.size < (gS U cA cI N M i).heap.size := by omega
    have keep : ∀ q : Nat, q ≠ U.heap.size → q < (gS U cA cI N M i).heap.size → (gS U cA cI N M (i + 1)).heap[q]? = (gS U cA cI N M i).heap[q]? := fun q hn hq => by
      show (((gS U cA cI N M i).pushCell _).setCell U.heap.size _).heap[q]? = _
      rw [State.heap_setCell_other (Ne.symm hn), State.heap_pushCell_of_lt (h := hq)]
    refine ⟨?_, ?_, by simp [gS, v], ?_, fun q hq => (keep q (by omega) (by omega)).trans (o q hq), fun j hj => ?_⟩
    · simp [gS, State.setCell, a]
      omega
    · have hb : ((gS U cA cI N M i).pushCell (arrV cI M (fun _ => .int 0))).heap[U.heap.size]? = some (arrV cA N (gO U.heap.size i)) := by
        rw [State.heap_pushCell_of_lt (h := lt0)]
        exact b
      exact State.heap_setCell_self hb
    · simp [gS, u, arrV_size, Nat.succ_mul]
      omega
    · by_cases h : j < i
      · rw [keep _ (by omega) (by omega)]
        exact r j h
      · have e : j = i := by omega
        subst e
        show (((gS U cA cI N M j).pushCell _).setCell U.heap.size _).heap[U.heap.size + 1 + j]? = _
        rw [State.heap_setCell_other (show U.heap.size ≠ U.heap.size + 1 + j by omega), ← a]
        exact State.heap_pushCell_size _ _
theorem gS_top (U : State) (f : JFrame) (cA cI : ClassId) (N M : Nat) : ∀ i, gS (U.setTop f) cA cI N M i = (gS U cA cI N M i).setTop f
  | 0 => rfl
  | i + 1 => by simp only [gS, gS_top U f cA cI N M i, State.heap_setTop, State.pushCell_setTop, State.setCell_setTop]
theorem gS_stand {p : Program} {l : Launch} {e : Env} {R : Room} {s : State} {m : MethodId} {args : Array Value} {below : List Frame} {meth : Method} {c : Code} {U : State} {locs : List Loc} {cells slots : Nat} (Z : Stand p l e R s m args below meth c U locs cells slots) (cA cI : ClassId) (N M : Nat) : ∀ i, ∃ L' : List Loc, (∀ q ∈ L', q.base = U.heap.size) ∧ Stand p l e R s m args below meth c (gS U cA cI N M i) (locs ++ L') (cells + 1 + i) (slots + N + i * M)
  | 0 => by
    have h := Z.pushed (arrV cA N (gO U.heap.size 0))
    rw [arrV_size] at h
    exact ⟨[], (fun q h => by cases h), by simpa [gS] using h⟩
  | i + 1 => by
    obtain ⟨L', h1, Zi⟩ := gS_stand Z cA cI N M i
    obtain ⟨a, b, -⟩ := gS_facts U cA cI N M i
    have lt0 : U.heap.size < (gS U cA cI N M i).heap.size := by omega
    have h := (Zi.pushed (arrV cI M (fun _ => .int 0))).stored (a := U.heap.size) (cell := arrV cA N (gO U.heap.size i)) (by rw [State.heap_pushCell_of_lt (h := lt0)]; exact b) i (.ref (U.heap.size + 1 + i))
    rw [gO_next, arrV_size, List.append_assoc] at h
    refine ⟨L' ++ [⟨U.heap.size, i⟩], fun q hq => ?_, ?_⟩
    · rcases List.mem_append.mp hq with hq | hq
      · exact h1 q hq
      · rw [List.mem_singleton.mp hq]
    · rw [show slots + N + (i + 1) * M = slots + N + i * M + M by rw [Nat.succ_mul]; omega]
      exact h
section GRW
variable {E : CtlPost} {e : Env} {d : Bool} {acts : List Action} {s : State}
/-- one row -/
theorem gr_row {cI cc : ClassId} {kI : Class} {x : Int32} (hk : s.vm.classes[cI]? = some kI) (hkind : kI.kind = .array cc .int) (hx : ¬ x < 0) (hl : ¬ x.toNatClampNeg > e.platform.arrayLengthLimit) (hh : ¬ x.toNatClampNeg * 4 > e.platform.maxHeapBytes) (h1 : s.heap.size < e.platform.maxCells) (h2 : s.slotsUsed + x.toNatClampNeg ≤ e.platform.maxSlots)
    {Q : Addr → Pre} (hq : ∀ acts', Q s.heap.size d acts' (s.pushCell (arrV cI x.toNatClampNeg (fun _ => .int 0)))) : wp (multianewarray.make cI [x]) Q E e d acts s := by
  rw [multianewarray.make]
  simp only [wp_bind', W.ite, hx, if_false, wp_pure', W.theClass, hk, hkind, Option.some.injEq, exists_eq_left']
  exact W.newArray_of hk hkind hl hh h1 h2 rfl (fun acts' => by
    have := hq acts'
    rw [← arrV_new] at this
    exact this)
/-- all of it -/
theorem gr_all {cA cI cc : ClassId} {kA kI : Class} {x y : Int32} (hkA : s.vm.classes[cA]? = some kA) (hA : kA.kind = .array cI (.array .int)) (hkI : s.vm.classes[cI]? = some kI) (hI : kI.kind = .array cc .int) (hx : ¬ x < 0) (hy : ¬ y < 0)
    (hl1 : ¬ x.toNatClampNeg > e.platform.arrayLengthLimit) (hh1 : ¬ x.toNatClampNeg * 4 > e.platform.maxHeapBytes) (hl2 : ¬ y.toNatClampNeg > e.platform.arrayLengthLimit) (hh2 : ¬ y.toNatClampNeg * 4 > e.platform.maxHeapBytes)
    (hc : s.heap.size + 1 + x.toNatClampNeg ≤ e.platform.maxCells) (hs : s.slotsUsed + x.toNatClampNeg + x.toNatClampNeg * y.toNatClampNeg ≤ e.platform.maxSlots)
    {Q : Addr → Pre} (hq : ∀ d' acts', Q s.heap.size d' acts' (gS s cA cI x.toNatClampNeg y.toNatClampNeg x.toNatClampNeg)) : wp (multianewarray.make cA [x, y]) Q E e d acts s := by
  have hno : ([y].find? (· < 0)) = none := by simp [hy]
  rw [multianewarray.make]
  simp only [wp_bind', W.ite, hx, if_false, wp_pure', W.theClass, hkA, hA, Option.some.injEq, exists_eq_left']
  refine W.newArray_of hkA hA hl1 hh1 (by omega) (by omega) rfl (fun acts1 => ?_)
  simp only [hno]
  rw [ite_self, wp_bind', Std.Legacy.Range.forIn_eq_forIn_range', show ([:x.toNatClampNeg] : Std.Legacy.Range).size = x.toNatClampNeg by simp [Std.Legacy.Range.size]]
  show wp (forIn (List.range' 0 x.toNatClampNeg 1) PUnit.unit _) _ E e d acts1 _
  have start : s.pushCell { cls := cA, slots := Array.replicate x.toNatClampNeg .null } = gS s cA cI x.toNatClampNeg y.toNatClampNeg 0 := by
    show _ = s.pushCell (arrV cA x.toNatClampNeg (gO s.heap.size 0))
    rw [show gO s.heap.size 0 = fun _ => .null from funext fun j => if_neg (Nat.not_lt_zero j), ← arrV_new]
  rw [start]
  refine wp_forIn_inv (fun rest s' => ∃ i, i + rest.length = x.toNatClampNeg ∧ rest = List.range' i rest.length ∧ s' = gS s cA cI x.toNatClampNeg y.toNatClampNeg i) _ _ ⟨0, by simp, by simp, rfl⟩ ?_ ?_
  · rintro k rest s' d' acts' Q' ⟨i, hlen, hr, rfl⟩ hgo
    rw [List.length_cons, List.range'_succ] at hr
    obtain ⟨rfl, hr⟩ := List.cons.inj hr
    rw [List.length_cons] at hlen
    obtain ⟨f1, f2, f3, f4, -⟩ := gS_facts s cA cI x.toNatClampNeg y.toNatClampNeg k
    have hmul : k * y.toNatClampNeg + y.toNatClampNeg ≤ x.toNatClampNeg * y.toNatClampNeg := by
      have := Nat.mul_le_mul_right y.toNatClampNeg (show k + 1 ≤ x.toNatClampNeg by omega)
      rwa [Nat.succ_mul] at this
    have lt0 : s.heap.size < (gS s cA cI x.toNatClampNeg y.toNatClampNeg k).heap.size := by omega
    simp only [wp_bind']
    refine gr_row (by rw [f3]; exact hkI) hI hy hl2 hh2 (by omega) (by omega) (fun acts2 => ?_)
    simp only [wp_bind', W.writeLoc, wp_pure']
    refine ⟨arrV cA x.toNatClampNeg (gO s.heap.size k), by rw [State.heap_pushCell_of_lt (h := lt0)]; exact f2, (fun h => by cases h), (by rw [arrV_size]; omega), ?_, hgo _ _ _ ⟨k + 1, by omega, hr, ?_⟩⟩
    · show State.fitsSlot _ cA .none k _ = true
      simp [State.fitsSlot, State.slotType?, f3, hkA, hA, fits]
    · rw [f1, gO_next]
      rfl
  · rintro s' d' acts' ⟨i, hlen, -, rfl⟩
    have hi : i = x.toNatClampNeg := by simpa using hlen
    subst hi
    simp only [wp_pure']
    exact hq _ _
end GRW
