/-! THE MACHINE COMES TO WHAT THE ABSTRACT MACHINE COMES TO: locals, stack, the simple instructions -/
def WS : List Cond := lw_tbl.filter goodWord
theorem WS_in {w : Cond} (h : w ∈ lw_tbl) (hg : goodWord w = true) : w ∈ WS := List.mem_filter.mpr ⟨h, hg⟩
def lvl (α : Nat → Nat → Nat) : Nat → AL → List (Nat × Value)
  | _, [] => []
  | i, none :: L => lvl α (i + 1) L
  | i, some v :: L => (i, conc α v) :: lvl α (i + 1) L
theorem lvl_mem {α : Nat → Nat → Nat} {q : Nat × Value} : ∀ (L : AL) (i : Nat), q ∈ lvl α i L ↔ ∃ k v, L[k]? = some (some v) ∧ q = (i + k, conc α v)
  | [], i => by simp [lvl]
  | none :: L, i => by
    show q ∈ lvl α (i + 1) L ↔ _
    rw [lvl_mem L (i + 1)]
    constructor
    · rintro ⟨k, v, h1, rfl⟩
      exact ⟨k + 1, v, by simpa using h1, by rw [Nat.add_assoc, Nat.add_comm 1 k]⟩
    · rintro ⟨k, v, h1, rfl⟩
      cases k with
      | zero => simp at h1
      | succ k => exact ⟨k, v, by simpa using h1, by rw [Nat.add_assoc, Nat.add_comm 1 k]⟩
  | some u :: L, i => by
    show q ∈ (i, conc α u) :: lvl α (i + 1) L ↔ _
    rw [List.mem_cons, lvl_mem L (i + 1)]
    constructor
    · rintro (rfl | ⟨k, v, h1, rfl⟩)
      · exact ⟨0, u, by simp, rfl⟩
      · exact ⟨k + 1, v, by simpa using h1, by rw [Nat.add_assoc, Nat.add_comm 1 k]⟩
    · rintro ⟨k, v, h1, rfl⟩
      cases k with
      | zero =>
        simp at h1
        exact Or.inl (by rw [h1]; rfl)
      | succ k => exact Or.inr ⟨k, v, by simpa using h1, by rw [Nat.add_assoc, Nat.add_comm 1 k]⟩
theorem lvl_get {α : Nat → Nat → Nat} {ls : Array Slot} {nL : Nat} {L : AL} (h : lv_has ls nL (lvl α 0 L)) {i : Nat} {v : AV} (hi : L[i]? = some (some v)) : ls[i]? = some (.val (conc α v)) := h.2.2 (i, conc α v) ((lvl_mem L 0).mpr ⟨i, v, hi, by rw [Nat.zero_add]⟩)
theorem lvl_idx {α : Nat → Nat → Nat} {L : AL} {i : Nat} {v : AV} (hi : L[i]? = some (some v)) : ∃ k : Nat, (lvl α 0 L)[k]? = some (i, conc α v) := List.getElem?_of_mem ((lvl_mem L 0).mpr ⟨i, v, hi, by rw [Nat.zero_add]⟩)
theorem cat_conc (α : Nat → Nat → Nat) (v : AV) : (conc α v).category = acat v := by
  rcases v with x | x | x <;> rfl
theorem isL_of {v : AV} (h : acat v = 2) : isL (some (some v)) = true := by
  rcases v with x | x | x <;> first | rfl | (simp [acat] at h)
theorem lcut_get {L : AL} {i j : Nat} {o : Option AV} {v : AV} (h : (lcut L i)[j]? = some (some v)) : L[j]? = some (some v) ∧ ¬ (j + 1 = i ∧ acat v = 2) := by
  cases i with
  | zero => exact ⟨h, by omega⟩
  | succ k =>
    have h : (cond (isL L[k]?) (L.set k none) L)[j]? = some (some v) := h
    cases hb : isL L[k]?
    · rw [hb] at h
      refine ⟨h, fun z => ?_⟩
      have hjk : j = k := by omega
      subst hjk
      have h : L[j]? = some (some v) := h
      rw [h, isL_of z.2] at hb
      cases hb
    · rw [hb] at h
      have h : (L.set k none)[j]? = some (some v) := h
      by_cases hjk : j = k
      · subst hjk
        rw [List.getElem?_set] at h
        simp at h
      · rw [List.getElem?_set_ne (Ne.symm hjk)] at h
        exact ⟨h, by omega⟩
theorem lcut_len (L : AL) (i : Nat) : (lcut L i).length = L.length := by
  cases i with
  | zero => rfl
  | succ k =>
    show (cond (isL L[k]?) (L.set k none) L).length = _
    cases isL L[k]? <;> simp
theorem lset1_len (L : AL) (i : Nat) (v : AV) : (lset1 L i v).length = L.length := by simp [lset1, lcut_len]
theorem lset2_len (L : AL) (i : Nat) (v : AV) : (lset2 L i v).length = L.length := by simp [lset2, lcut_len]
theorem lset1_get {L : AL} {i j : Nat} {u v : AV} (h : (lset1 L i u)[j]? = some (some v)) : (j = i ∧ v = u) ∨ (j ≠ i ∧ L[j]? = some (some v) ∧ ¬ (j + 1 = i ∧ acat v = 2)) := by
  unfold lset1 at h
  by_cases hj : j = i
  · subst hj
    rw [List.getElem?_set] at h
    simp at h
    exact Or.inl ⟨rfl, h.2.symm⟩
  · rw [List.getElem?_set_ne (Ne.symm hj)] at h
    exact Or.inr ⟨hj, lcut_get (o := none) h⟩
theorem lset2_get {L : AL} {i j : Nat} {u v : AV} (h : (lset2 L i u)[j]? = some (some v)) : (j = i ∧ v = u) ∨ (j ≠ i ∧ j ≠ i + 1 ∧ L[j]? = some (some v) ∧ ¬ (j + 1 = i ∧ acat v = 2)) := by
  unfold lset2 at h
  by_cases hj1 : j = i + 1
  · subst hj1
    rw [List.getElem?_set] at h
    simp at h
  · rw [List.getElem?_set_ne (Ne.symm hj1)] at h
    rcases lset1_get h with h | ⟨h1, h2⟩
    · exact Or.inl h
    · exact Or.inr ⟨h1, hj1, h2⟩
theorem lset1_has {α : Nat → Nat → Nat} {ls : Array Slot} {nL i : Nat} {L : AL} {v : AV} (h : lv_has ls nL ((i, conc α v) :: (lvl α 0 L).filter (fun q => !(q.1 == i) && !(q.1 + 1 == i && q.2.category == 2)))) : lv_has ls nL (lvl α 0 (lset1 L i v)) := by
  refine ⟨h.1, h.2.1, fun q hq => h.2.2 q ?_⟩
  obtain ⟨k, u, h1, rfl⟩ := (lvl_mem _ 0).mp hq
  rw [Nat.zero_add]
  rcases lset1_get h1 with ⟨rfl, rfl⟩ | ⟨h2, h3, h4⟩
  · exact List.mem_cons_self
  · refine List.mem_cons_of_mem _ (List.mem_filter.mpr ⟨(lvl_mem L 0).mpr ⟨k, u, h3, by rw [Nat.zero_add]⟩, ?_⟩)
    have hc := cat_conc α u
    simp only [Bool.and_eq_true, Bool.not_eq_true', beq_eq_false_iff_ne, Bool.and_eq_false_iff]
    refine ⟨h2, ?_⟩
    by_cases hk : k + 1 = i
    · exact Or.inr (fun z => h4 ⟨hk, by rw [← hc]; exact z⟩)
    · exact Or.inl hk
theorem lset2_has {α : Nat → Nat → Nat} {ls : Array Slot} {nL i : Nat} {L : AL} {v : AV} (h : lv_has ls nL ((i, conc α v) :: (lvl α 0 L).filter (fun q => !(q.1 == i) && (!(q.1 == i + 1) && !(q.1 + 1 == i && q.2.category == 2))))) : lv_has ls nL (lvl α 0 (lset2 L i v)) := by
  refine ⟨h.1, h.2.1, fun q hq => h.2.2 q ?_⟩
  obtain ⟨k, u, h1, rfl⟩ := (lvl_mem _ 0).mp hq
  rw [Nat.zero_add]
  rcases lset2_get h1 with ⟨rfl, rfl⟩ | ⟨h2, h5, h3, h4⟩
  · exact List.mem_cons_self
  · refine List.mem_cons_of_mem _ (List.mem_filter.mpr ⟨(lvl_mem L 0).mpr ⟨k, u, h3, by rw [Nat.zero_add]⟩, ?_⟩)
    have hc := cat_conc α u
    simp only [Bool.and_eq_true, Bool.not_eq_true', beq_eq_false_iff_ne, Bool.and_eq_false_iff]
    refine ⟨h2, h5, ?_⟩
    by_cases hk : k + 1 = i
    · exact Or.inr (fun z => h4 ⟨hk, by rw [← hc]; exact z⟩)
    · exact Or.inl hk
theorem clr_get {j : Nat} {v : AV} : ∀ (ks : List Nat) (L : AL), (clr L ks)[j]? = some (some v) → L[j]? = some (some v)
  | [], _, h => h
  | k :: ks, L, h => by
    have h1 := clr_get ks (L.set k none) h
    by_cases hk : j = k
    · subst hk
      rw [List.getElem?_set] at h1
      simp at h1
    · rwa [List.getElem?_set_ne (Ne.symm hk)] at h1
theorem clr_len : ∀ (ks : List Nat) (L : AL), (clr L ks).length = L.length
  | [], _ => rfl
  | k :: ks, L => by
    show (clr (L.set k none) ks).length = _
    rw [clr_len ks, List.length_set]
theorem clr_has {α : Nat → Nat → Nat} {ls : Array Slot} {nL : Nat} {L : AL} (ks : List Nat) (h : lv_has ls nL (lvl α 0 L)) : lv_has ls nL (lvl α 0 (clr L ks)) := by
  refine ⟨h.1, h.2.1, fun q hq => h.2.2 q ?_⟩
  obtain ⟨k, v, h1, rfl⟩ := (lvl_mem _ 0).mp hq
  exact (lvl_mem L 0).mpr ⟨k, v, clr_get ks L h1, rfl⟩
theorem clr_ok {scr : Bool} {L : AL} (ks : List Nat) (h : ∀ v, some v ∈ L → okv scr v) : ∀ v, some v ∈ clr L ks → okv scr v := fun v hv => by
  obtain ⟨j, hj⟩ := List.getElem?_of_mem hv
  exact h v (List.mem_of_getElem? (clr_get ks L hj))
def IW (α : Nat → Nat → Nat) (cT : Nat → ClassId) (D : va_G) (s : State) (scr : Bool) (xs : Nat → Int32) (Ln : Nat) (σ : St) (H : Heap) (locs : List Loc) : Prop :=
  va_P D vwCl (wl α cT σ) H ∧ va_D (AA α s.heap.size) (wl α cT σ) ∧ va_S (AA α s.heap.size) s.heap H locs ∧ (scr = true → (∀ j, j < Ln → gI σ 497 0 j = xs j) ∧ gI σ 497 1 0 = Int32.ofNat Ln)
def CX (p : Program) (s : State) (mi : MethodId) (args : Array Value) (c : Code) (α : Nat → Nat → Nat) (cT : Nat → ClassId) (D : va_G) (adV : Nat → Nat) (scr : Bool) (xs : Nat → Int32) (Ln : Nat) (m : Nat) : Prop :=
  p.tables.exec = Jvm.exec ∧ c.code = mbt m ∧ c.maxLocals = maxL m ∧ s.vm.findClass (cnm (mcl m)) = some mi.cls ∧ (∀ w ∈ WS, w.before args s = true) ∧ KK α cT D s ∧ vzS α adV (AA α s.heap.size) s s.heap ∧
  (scr = true → va_X (α 497 0) Ln xs s s.heap ∧ α 497 0 < s.heap.size ∧ ¬ AA α s.heap.size (α 497 0) ∧ Ln < 2 ^ 31)
/-- what comes behind is sound -/
def KS (p : Program) (l : Launch) (e : Env) (R : Room) (s : State) (mi : MethodId) (args : Array Value) (below : List Frame) (meth : Method) (c : Code) (cells slots : Nat) (Q : State → Prop) (α : Nat → Nat → Nat) (cT : Nat → ClassId) (D : va_G) (scr : Bool) (xs : Nat → Int32) (Ln nL : Nat) (K : AK) (z : AR) : Prop :=
  ∀ pc L S σ, K pc L S σ = some z → (∀ v ∈ S, okv scr v) → (∀ v, some v ∈ L → okv scr v) → L.length = nL → ∀ H locs ls, IW α cT D s scr xs Ln σ H locs → lv_has ls nL (lvl α 0 L) →
    W p l e R s mi args below meth c H locs cells slots Q (F0 mi pc ls (S.map (conc α)))
section SND
variable {p : Program} {l : Launch} {e : Env} {R : Room} {s : State} {mi : MethodId} {args : Array Value} {below : List Frame} {meth : Method} {c : Code} {cells slots : Nat} {Q : State → Prop} {α : Nat → Nat → Nat} {cT : Nat → ClassId} {D : va_G} {adV : Nat → Nat} {scr : Bool} {xs : Nat → Int32} {Ln m : Nat} {K : AK} {z : AR}
variable {pc : Nat} {L : AL} {S : List AV} {σ : St} {H : Heap} {locs : List Loc} {ls : Array Slot}
theorem okS_cons {v : AV} (hv : okv scr v) (hS : ∀ u ∈ S, okv scr u) : ∀ u ∈ (v :: S), okv scr u := fun u hu => (List.mem_cons.mp hu).elim (fun h => by rw [h]; exact hv) (hS u)
theorem okS_tail {v : AV} (hS : ∀ u ∈ (v :: S), okv scr u) : ∀ u ∈ S, okv scr u := fun u hu => hS u (List.mem_cons_of_mem _ hu)
theorem okL_set1 {i : Nat} {v : AV} (hL : ∀ v, some v ∈ L → okv scr v) (hv : okv scr v) : ∀ u, some u ∈ lset1 L i v → okv scr u := by
  intro u hu
  obtain ⟨j, hj⟩ := List.getElem?_of_mem hu
  rcases lset1_get hj with ⟨-, rfl⟩ | ⟨-, h, -⟩
  · exact hv
  · exact hL u (List.mem_of_getElem? h)
theorem okL_set2 {i : Nat} {v : AV} (hL : ∀ v, some v ∈ L → okv scr v) (hv : okv scr v) : ∀ u, some u ∈ lset2 L i v → okv scr u := by
  intro u hu
  obtain ⟨j, hj⟩ := List.getElem?_of_mem hu
  rcases lset2_get hj with ⟨-, rfl⟩ | ⟨-, -, h, -⟩
  · exact hv
  · exact hL u (List.mem_of_getElem? h)
theorem snd_ldI (hx : p.tables.exec = Jvm.exec) (hb : c.code = mbt m) (hK : KS p l e R s mi args below meth c cells slots Q α cT D scr xs Ln (maxL m) K z) {len i : Nat} (hd : (decode (mbt m) pc = .ok (.iload i, 2) ∧ len = 2) ∨ (∃ k : Fin 4, decode (mbt m) pc = .ok (.iload_n k, 1) ∧ k.val = i ∧ len = 1))
    (h : ldI K (pc + len) L S σ i = some z) (hS : ∀ v ∈ S, okv scr v) (hL : ∀ v, some v ∈ L → okv scr v) (hn : L.length = maxL m) (hI : IW α cT D s scr xs Ln σ H locs) (hl : lv_has ls (maxL m) (lvl α 0 L)) : W p l e R s mi args below meth c H locs cells slots Q (F0 mi pc ls (S.map (conc α))) := by
  unfold ldI at h
  split at h
  · next x hx2 =>
    have hg := lvl_get hl hx2
    have kk := hK _ _ _ _ h (okS_cons trivial hS) hL hn H locs ls hI hl
    rcases hd with ⟨hd, rfl⟩ | ⟨k, hd, hk, rfl⟩
    · exact lv_iload hx hb hd hg kk
    · exact lv_iload_n hx hb hd hk hg kk
  · cases h
theorem snd_ldL (hx : p.tables.exec = Jvm.exec) (hb : c.code = mbt m) (hK : KS p l e R s mi args below meth c cells slots Q α cT D scr xs Ln (maxL m) K z) {len i : Nat} (hd : (decode (mbt m) pc = .ok (.lload i, 2) ∧ len = 2) ∨ (∃ k : Fin 4, decode (mbt m) pc = .ok (.lload_n k, 1) ∧ k.val = i ∧ len = 1))
    (h : ldL K (pc + len) L S σ i = some z) (hS : ∀ v ∈ S, okv scr v) (hL : ∀ v, some v ∈ L → okv scr v) (hn : L.length = maxL m) (hI : IW α cT D s scr xs Ln σ H locs) (hl : lv_has ls (maxL m) (lvl α 0 L)) : W p l e R s mi args below meth c H locs cells slots Q (F0 mi pc ls (S.map (conc α))) := by
  unfold ldL at h
  split at h
  · next x hx2 =>
    have hg := lvl_get hl hx2
    have kk := hK _ _ _ _ h (okS_cons trivial hS) hL hn H locs ls hI hl
    rcases hd with ⟨hd, rfl⟩ | ⟨k, hd, hk, rfl⟩
    · exact lv_lload hx hb hd hg kk
    · exact lv_lload_n hx hb hd hk hg kk
  · cases h
theorem snd_ldA (hx : p.tables.exec = Jvm.exec) (hb : c.code = mbt m) (hK : KS p l e R s mi args below meth c cells slots Q α cT D scr xs Ln (maxL m) K z) {len i : Nat} (hd : (decode (mbt m) pc = .ok (.aload i, 2) ∧ len = 2) ∨ (∃ k : Fin 4, decode (mbt m) pc = .ok (.aload_n k, 1) ∧ k.val = i ∧ len = 1))
    (h : ldA K (pc + len) L S σ i = some z) (hS : ∀ v ∈ S, okv scr v) (hL : ∀ v, some v ∈ L → okv scr v) (hn : L.length = maxL m) (hI : IW α cT D s scr xs Ln σ H locs) (hl : lv_has ls (maxL m) (lvl α 0 L)) : W p l e R s mi args below meth c H locs cells slots Q (F0 mi pc ls (S.map (conc α))) := by
  unfold ldA at h
  split at h
  · next q hx2 =>
    have hg := lvl_get hl hx2
    have hq : okv scr (.inr (.inr q)) := hL _ (List.mem_of_getElem? hx2)
    have kk := hK _ _ _ _ h (okS_cons hq hS) hL hn H locs ls hI hl
    rcases hd with ⟨hd, rfl⟩ | ⟨k, hd, hk, rfl⟩
    · exact lv_aload hx hb hd hg kk
    · exact lv_aload_n hx hb hd hk hg kk
  · cases h
theorem snd_stI (hx : p.tables.exec = Jvm.exec) (hb : c.code = mbt m) (hK : KS p l e R s mi args below meth c cells slots Q α cT D scr xs Ln (maxL m) K z) {len i : Nat} (hd : (decode (mbt m) pc = .ok (.istore i, 2) ∧ len = 2) ∨ (∃ k : Fin 4, decode (mbt m) pc = .ok (.istore_n k, 1) ∧ k.val = i ∧ len = 1))
    (h : stI K (pc + len) L S σ i = some z) (hS : ∀ v ∈ S, okv scr v) (hL : ∀ v, some v ∈ L → okv scr v) (hn : L.length = maxL m) (hI : IW α cT D s scr xs Ln σ H locs) (hl : lv_has ls (maxL m) (lvl α 0 L)) : W p l e R s mi args below meth c H locs cells slots Q (F0 mi pc ls (S.map (conc α))) := by
  unfold stI at h
  split at h
  · next x S' =>
    cases hlt : Nat.blt i L.length
    · rw [hlt] at h; cases h
    · rw [hlt] at h
      have hi : i < maxL m := by rw [← hn]; exact Nat.le_of_ble_eq_true hlt
      have kk := fun ls' hl' => hK _ _ _ _ h (fun v hv => hS v (List.mem_cons_of_mem _ hv)) (okL_set1 hL (v := .inl x) trivial) (by rw [lset1_len]; exact hn) H locs ls' hI (lset1_has (v := .inl x) hl')
      rcases hd with ⟨hd, rfl⟩ | ⟨k, hd, hk, rfl⟩
      · exact lv_istore hx hb hd hl hi rfl kk
      · exact lv_istore_n hx hb hd hk hl hi rfl kk
  · cases h
theorem snd_stL (hx : p.tables.exec = Jvm.exec) (hb : c.code = mbt m) (hK : KS p l e R s mi args below meth c cells slots Q α cT D scr xs Ln (maxL m) K z) {len i : Nat} (hd : (decode (mbt m) pc = .ok (.lstore i, 2) ∧ len = 2) ∨ (∃ k : Fin 4, decode (mbt m) pc = .ok (.lstore_n k, 1) ∧ k.val = i ∧ len = 1))
    (h : stL K (pc + len) L S σ i = some z) (hS : ∀ v ∈ S, okv scr v) (hL : ∀ v, some v ∈ L → okv scr v) (hn : L.length = maxL m) (hI : IW α cT D s scr xs Ln σ H locs) (hl : lv_has ls (maxL m) (lvl α 0 L)) : W p l e R s mi args below meth c H locs cells slots Q (F0 mi pc ls (S.map (conc α))) := by
  unfold stL at h
  split at h
  · next x S' =>
    cases hlt : Nat.blt (i + 1) L.length
    · rw [hlt] at h; cases h
    · rw [hlt] at h
      have hi : i + 1 < maxL m := by rw [← hn]; exact Nat.le_of_ble_eq_true hlt
      have kk := fun ls' hl' => hK _ _ _ _ h (fun v hv => hS v (List.mem_cons_of_mem _ hv)) (okL_set2 hL (v := .inr (.inl x)) trivial) (by rw [lset2_len]; exact hn) H locs ls' hI (lset2_has (v := .inr (.inl x)) hl')
      rcases hd with ⟨hd, rfl⟩ | ⟨k, hd, hk, rfl⟩
      · exact lv_lstore hx hb hd hl hi rfl kk
      · exact lv_lstore_n hx hb hd hk hl hi rfl kk
  · cases h
theorem snd_stA (hx : p.tables.exec = Jvm.exec) (hb : c.code = mbt m) (hK : KS p l e R s mi args below meth c cells slots Q α cT D scr xs Ln (maxL m) K z) {len i : Nat} (hd : (decode (mbt m) pc = .ok (.astore i, 2) ∧ len = 2) ∨ (∃ k : Fin 4, decode (mbt m) pc = .ok (.astore_n k, 1) ∧ k.val = i ∧ len = 1))
    (h : stA K (pc + len) L S σ i = some z) (hS : ∀ v ∈ S, okv scr v) (hL : ∀ v, some v ∈ L → okv scr v) (hn : L.length = maxL m) (hI : IW α cT D s scr xs Ln σ H locs) (hl : lv_has ls (maxL m) (lvl α 0 L)) : W p l e R s mi args below meth c H locs cells slots Q (F0 mi pc ls (S.map (conc α))) := by
  unfold stA at h
  split at h
  · next q S' =>
    cases hlt : Nat.blt i L.length
    · rw [hlt] at h; cases h
    · rw [hlt] at h
      have hi : i < maxL m := by rw [← hn]; exact Nat.le_of_ble_eq_true hlt
      have hq : okv scr (.inr (.inr q)) := hS _ List.mem_cons_self
      have kk := fun ls' hl' => hK _ _ _ _ h (fun v hv => hS v (List.mem_cons_of_mem _ hv)) (okL_set1 hL hq) (by rw [lset1_len]; exact hn) H locs ls' hI (lset1_has (v := .inr (.inr q)) hl')
      rcases hd with ⟨hd, rfl⟩ | ⟨k, hd, hk, rfl⟩
      · exact lv_astore hx hb hd hl hi rfl kk
      · exact lv_astore_n hx hb hd hk hl hi rfl kk
  · cases h
end SND
