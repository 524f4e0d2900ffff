/-! THE MAKING: the machine comes to what it comes to -/
section MKS
variable {p : Program} {l : Launch} {e : Env} {R : Room} {s : State} {mi : MethodId} {args : Array Value} {below : List Frame} {meth : Method} {c : Code} {Q : State → Prop} {b0 : Nat} {cM : Nat → ClassId} {D : va_G} {ci mc ms l0 d : Nat} {K : MK} {z : MW}
variable {pc cells n : Nat} {L : AL} {S : List AV} {w : MW} {H : Heap} {locs : List Loc} {ls : Array Slot}
theorem KI.put {w2 : MW} {H1 : Heap} {locs1 : List Loc} (hI : KI b0 cM D s w H locs) (hl : w2.length = w.length) (hz : va_S (fun q => b0 ≤ q) s.heap H1 locs1) (hP : va_P D vwCl (mr b0 cM w2) H1) (hsz : H1.size = H.size) : KI b0 cM D s w2 H1 locs1 := ⟨by rw [hsz, hI.1, hl], hP, hz⟩
/-- a new array of a plain kind -/
theorem mk_newa (X : KX p s mi args meth c b0 cM D ci) (hI : KI b0 cM D s w H locs) {t : ArrayType} {k : Nat} (hk : ktc t = some k) {x : Int32} (hx0 : ¬ x < 0) (hx1 : x.toNatClampNeg ≤ 60000) (hc : cells + 1 ≤ R.cells) (hs : n + x.toNatClampNeg ≤ R.slots) (hd : decode (kbt ci) pc = .ok (.newarray t, 2)) {rest : List Value}
    (kk : ∀ H1, KI b0 cM D s (w ++ [.inr (.inl (k, x.toNatClampNeg, []))]) H1 locs → W p l e R s mi args below meth c H1 locs (cells + 1) (n + x.toNatClampNeg) Q (F0 mi (pc + 2) ls (.ref (b0 + w.length) :: rest))) : W p l e R s mi args below meth c H locs cells n Q (F0 mi pc ls (.int x :: rest)) := by
  obtain ⟨hx, hb, hml, hown, hts, hW, hnm, hb0, hci, hrt, hlk⟩ := X
  have key : Cond.arrayClass (newarray.typeOf t) ∈ WS ∧ k < 7 ∧ newarray.typeOf t = mty k ∧ x.toNatClampNeg * componentBytes (newarray.typeOf t) ≤ 536870912 ∧ (∀ cA, va_RA s cA (mty k) → s.vm.findClass ("[" ++ (mty k).toString) = some cA) ∧ ∀ cA : ClassId, vp_cell cA (mbd x.toNatClampNeg k []) = arrV cA x.toNatClampNeg (fun _ => defaultValue (newarray.typeOf t)) := by
    cases t <;> simp only [ktc, reduceCtorEq, Option.some.injEq] at hk <;> subst hk
    · exact ⟨ow_arr.2.2.2, by decide, rfl, by show _ * 1 ≤ _; omega, fun _ h => h, fun _ => rfl⟩
    · exact ⟨ow_arr.2.2.1, by decide, rfl, by show _ * 1 ≤ _; omega, fun _ h => h, fun _ => rfl⟩
    · exact ⟨ow_arr.1, by decide, rfl, by show _ * 4 ≤ _; omega, fun _ h => h, fun _ => rfl⟩
    · exact ⟨ow_arr.2.1, by decide, rfl, by show _ * 8 ≤ _; omega, fun _ h => h, fun _ => rfl⟩
  obtain ⟨k1, k2, k3, k4, k5, k6⟩ := key
  refine va_newaK hx hb (hts _ k1) rfl hd rfl hx0 rfl k4 hc hs rfl fun H1 cA e1 z1 o1 hAr hNm => ?_
  have hcA : cA = cM k := by
    have h1 := k5 _ (hW.1.2 k _ (mtys_at k2)).2
    rw [k3] at hNm
    exact Option.some.inj (hNm.symm.trans h1)
  have hsz := hI.1
  have hfin := kk H1 ⟨by rw [z1, hI.1, List.length_append]; rfl, mr_grow hI.2.1 o1 (fun j cc hj => ?_), ⟨Nat.le_trans hI.2.2.1 (by omega), fun q h1 h2 => (o1 q (Nat.lt_of_lt_of_le h1 hI.2.2.1)).trans (hI.2.2.2.1 q h1 h2), hI.2.2.2.2⟩⟩
  · rw [← hsz] at hfin
    exact hfin
  · have hj0 : j = 0 := by
      have := (List.getElem?_eq_some_iff.mp hj).1
      simpa using this
    subst hj0
    cases hj
    show H1[b0 + (w.length + 0)]? = some (vp_cell (cM k) (mbd x.toNatClampNeg k []))
    rw [k6, Nat.add_zero, ← hsz, ← hcA]
    exact e1
/-- a new array of objects -/
theorem mk_newq (X : KX p s mi args meth c b0 cM D ci) (hI : KI b0 cM D s w H locs) {C : String} {k idx : Nat} (hk : k < 7) (hty : mty k = .object C) (hao : va_AO C s) (hcl : Cond.classLink (cnm ci) idx C ∈ WS) {x : Int32} (hx0 : ¬ x < 0) (hx1 : x.toNatClampNeg ≤ 60000) (hc : cells + 1 ≤ R.cells) (hs : n + x.toNatClampNeg ≤ R.slots) (hd : decode (kbt ci) pc = .ok (.anewarray idx, 3)) {rest : List Value}
    (kk : ∀ H1, KI b0 cM D s (w ++ [.inr (.inr (k, x.toNatClampNeg, []))]) H1 locs → W p l e R s mi args below meth c H1 locs (cells + 1) (n + x.toNatClampNeg) Q (F0 mi (pc + 3) ls (.ref (b0 + w.length) :: rest))) : W p l e R s mi args below meth c H locs cells n Q (F0 mi pc ls (.int x :: rest)) := by
  obtain ⟨hx, hb, hml, hown, hts, hW, hnm, hb0, hci, hrt, hlk⟩ := X
  refine W.anew hx hb hown (hts _ hcl) (va_AO.use hao) rfl hd rfl hx0 (by omega) hc hs fun cA kA comp f1 f2 f3 f4 => ?_
  generalize hH1 : H.push ({ cls := cA, slots := Array.replicate x.toNatClampNeg .null, vm := .none } : Cell) = H1
  have z1 : H1.size = H.size + 1 := by rw [← hH1, Array.size_push]
  have e1 : H1[H.size]? = some (arrV cA x.toNatClampNeg (fun _ => .null)) := by rw [← hH1, Array.getElem?_push_size, ← arrV_new]
  have o1 : ∀ q : Nat, q < H.size → H1[q]? = H[q]? := fun q hq => by rw [← hH1, Array.getElem?_push, if_neg (Nat.ne_of_lt hq)]
  have hcA : cA = cM k := by
    have h1 := (hW.1.2 k _ (mtys_at hk)).2
    rw [hty] at h1
    obtain ⟨_, _, -, -, -, h1⟩ := h1
    exact Option.some.inj (f1.symm.trans h1)
  have hsz := hI.1
  have hfin := kk H1 ⟨by rw [z1, hI.1, List.length_append]; rfl, mr_grow hI.2.1 o1 (fun j cc hj => ?_), ⟨Nat.le_trans hI.2.2.1 (by omega), fun q h1 h2 => (o1 q (Nat.lt_of_lt_of_le h1 hI.2.2.1)).trans (hI.2.2.2.1 q h1 h2), hI.2.2.2.2⟩⟩
  · rw [← hsz] at hfin
    exact hfin
  · have hj0 : j = 0 := by
      have := (List.getElem?_eq_some_iff.mp hj).1
      simpa using this
    subst hj0
    cases hj
    show H1[b0 + (w.length + 0)]? = some (vp_cell (cM k) _)
    rw [Nat.add_zero, ← hsz, ← hcA]
    exact e1
/-- a new object -/
theorem mk_new (X : KX p s mi args meth c b0 cM D ci) (hI : KI b0 cM D s w H locs) {ci' idx : Nat} (hc' : ci' < 13) (hcl : Cond.classLink (cnm ci) idx (Tc ci').1 ∈ WS) (hc : cells + 1 ≤ R.cells) (hs : n + (Tc ci').2.2 ≤ R.slots) (hd : decode (kbt ci) pc = .ok (.new idx, 3)) {rest : List Value}
    (kk : ∀ H1, KI b0 cM D s (w ++ [.inl (ci', kbl ci')]) H1 locs → W p l e R s mi args below meth c H1 locs (cells + 1) (n + (Tc ci').2.2) Q (F0 mi (pc + 3) ls (.ref (b0 + w.length) :: rest))) : W p l e R s mi args below meth c H locs cells n Q (F0 mi pc ls rest) := by
  obtain ⟨hx, hb, hml, hown, hts, hW, hnm, hb0, hci, hrt, hlk⟩ := X
  obtain ⟨w1, w2, w3, w4, w5, w6, w7, w8, w9, w10⟩ := kd_of hc'
  obtain ⟨ty, hty, hdf⟩ := kbl_ok ci' hc'
  have hKn := hW.1.1 ci' _ (Tc_at hc')
  refine W.newcK hx hb hown (hts _ hcl) (hts _ w4) (hts _ (by rw [w6, ← w5]; exact w2)) rfl hd hc hs hKn.2.1 rfl fun H1 kC hkC e1 z1 o1 => ?_
  have hsz := hI.1
  have hfin := kk H1 ⟨by rw [z1, hI.1, List.length_append]; rfl, mr_grow hI.2.1 o1 (fun j cc hj => ?_), ⟨Nat.le_trans hI.2.2.1 (by omega), fun q h1 h2 => (o1 q (Nat.lt_of_lt_of_le h1 hI.2.2.1)).trans (hI.2.2.2.1 q h1 h2), hI.2.2.2.2⟩⟩
  · rw [← hsz] at hfin
    exact hfin
  · have hj0 : j = 0 := by
      have := (List.getElem?_eq_some_iff.mp hj).1
      simpa using this
    subst hj0
    cases hj
    refine ⟨_, Tc_at hc', ?_⟩
    show t_OB (b0 + (w.length + 0)) _ _ _ H1 _
    rw [Nat.add_zero, ← hsz]
    exact (u_born ty hts (uw_in hc') hKn hkC e1 hty).to (hdf b0)
theorem gO_mgR (b0 k0 : Nat) : ∀ (i j : Nat), gO (b0 + k0) i j = va_rf (mgR b0 (kups k0 i) j)
  | 0, j => if_neg (Nat.not_lt_zero j)
  | i + 1, j => by
    have ih := gO_mgR b0 k0 i j
    show _ = va_rf (if j = i then some (b0 + (k0 + 1 + i)) else mgR b0 (kups k0 i) j)
    by_cases hj : j = i
    · subst hj
      rw [if_pos rfl]
      show (if j < j + 1 then Value.ref (b0 + k0 + 1 + j) else .null) = .ref (b0 + (k0 + 1 + j))
      rw [if_pos (Nat.lt_succ_self j), show b0 + k0 + 1 + j = b0 + (k0 + 1 + j) by omega]
    · rw [if_neg hj, ← ih]
      unfold gO
      by_cases h2 : j < i
      · rw [if_pos h2, if_pos (by omega)]
      · rw [if_neg h2, if_neg (by omega)]
/-- an array of arrays -/
theorem mk_mna (X : KX p s mi args meth c b0 cM D ci) (hI : KI b0 cM D s w H locs) {idx : Nat} (hcl : Cond.classLink (cnm ci) idx ("[" ++ (FieldType.array .int).toString) ∈ WS) {x y : Int32} (hx0 : ¬ x < 0) (hy0 : ¬ y < 0) (hx1 : x.toNatClampNeg ≤ 1000) (hy1 : y.toNatClampNeg ≤ 1000) (hc : cells + (1 + x.toNatClampNeg) ≤ R.cells) (hs : n + (x.toNatClampNeg + x.toNatClampNeg * y.toNatClampNeg) ≤ R.slots) (hd : decode (kbt ci) pc = .ok (.multianewarray idx 2, 4)) {rest : List Value}
    (kk : ∀ H1 locs1, KI b0 cM D s (w ++ .inr (.inr (6, x.toNatClampNeg, kups w.length x.toNatClampNeg)) :: List.replicate x.toNatClampNeg (.inr (.inl (0, y.toNatClampNeg, [])))) H1 locs1 → W p l e R s mi args below meth c H1 locs1 (cells + 1 + x.toNatClampNeg) (n + x.toNatClampNeg + x.toNatClampNeg * y.toNatClampNeg) Q (F0 mi (pc + 4) ls (.ref (b0 + w.length) :: rest))) : W p l e R s mi args below meth c H locs cells n Q (F0 mi pc ls (.int y :: .int x :: rest)) := by
  obtain ⟨hx, hb, hml, hown, hts, hW, hnm, hb0, hci, hrt, hlk⟩ := X
  obtain ⟨kA, hkA, hkindA⟩ := hW.2.2.2.2
  obtain ⟨-, kI, hkI, cc, hkindI⟩ := (hW.1.2 0 _ (mtys_at (by decide))).1 0 (fun _ => .null)
  have hkI : s.vm.classes[cM 0]? = some kI := hkI
  have hkindI : kI.kind = .array cc .int := hkindI
  have hnameA : s.vm.findClass ("[" ++ (FieldType.array .int).toString) = some (cM 6) := (hW.1.2 6 _ (mtys_at (by decide))).2
  intro T0 hT Z
  subst hT
  have hpl : e.platform.magicAccessors = ({} : Platform).magicAccessors := by rw [Z.admits.platform]
  obtain ⟨c0, hfc0, hlink⟩ := Cond.classLink_spec hown (hts _ hcl) e.platform hpl
  cases hnameA.symm.trans hfc0
  obtain ⟨hent, hwarm, -⟩ := State.classEntry (e := e) Z.warmed hlink
  generalize T0.vm.noted mi.cls idx (.cls (cM 6)) = vm1 at hent hwarm
  obtain ⟨kA1, hkA1, heA⟩ := hwarm.alike.2.2 _ _ hkA
  obtain ⟨kI1, hkI1, heI⟩ := hwarm.alike.2.2 _ _ hkI
  have Z1 := Z.noted hwarm
  obtain ⟨L', hL', Z2⟩ := gS_stand Z1 (cM 6) (cM 0) x.toNatClampNeg y.toNatClampNeg x.toNatClampNeg
  obtain ⟨f1, f2, f3, f4, f5, f6⟩ := gS_facts (T0.setVm vm1) (cM 6) (cM 0) x.toNatClampNeg y.toNatClampNeg x.toNatClampNeg
  have hsz := hI.1
  have f1 : (gS (T0.setVm vm1) (cM 6) (cM 0) x.toNatClampNeg y.toNatClampNeg x.toNatClampNeg).heap.size = T0.heap.size + 1 + x.toNatClampNeg := f1
  have f2 : (gS (T0.setVm vm1) (cM 6) (cM 0) x.toNatClampNeg y.toNatClampNeg x.toNatClampNeg).heap[T0.heap.size]? = some (arrV (cM 6) x.toNatClampNeg (gO T0.heap.size x.toNatClampNeg)) := f2
  have f5 : ∀ q : Nat, q < T0.heap.size → (gS (T0.setVm vm1) (cM 6) (cM 0) x.toNatClampNeg y.toNatClampNeg x.toNatClampNeg).heap[q]? = T0.heap[q]? := f5
  have f6 : ∀ j, j < x.toNatClampNeg → (gS (T0.setVm vm1) (cM 6) (cM 0) x.toNatClampNeg y.toNatClampNeg x.toNatClampNeg).heap[T0.heap.size + 1 + j]? = some (arrV (cM 0) y.toNatClampNeg (fun _ => .int 0)) := f6
  have hfin := kk (gS (T0.setVm vm1) (cM 6) (cM 0) x.toNatClampNeg y.toNatClampNeg x.toNatClampNeg).heap (locs ++ L') ⟨by rw [f1, hsz, List.length_append, List.length_cons, List.length_replicate]; omega, mr_grow hI.2.1 f5 (fun j cc hj => ?_), ⟨Nat.le_trans hI.2.2.1 (by omega), fun q h1 h2 => (f5 q (Nat.lt_of_lt_of_le h1 hI.2.2.1)).trans (hI.2.2.2.1 q h1 h2), fun q hq => ?_⟩⟩
  · obtain ⟨t, a1, b1⟩ := hfin _ rfl Z2
    refine ⟨t, ?_, b1⟩
    have hdg : decode c.code (F0 mi pc ls (.int y :: .int x :: rest)).pc = .ok (.multianewarray idx 2, 4) := by rw [hb]; exact hd
    obtain ⟨r1, r2⟩ := Z.roomAbove hc hs
    have hl : e.platform.arrayLengthLimit = _ := Launch.admits_arrayLengthLimit Z.admits
    have hh : e.platform.maxHeapBytes = _ := Launch.admits_maxHeapBytes Z.admits
    rw [← hsz] at a1
    jvm_step Z.here [hx, hdg]
    simp only [multianewarray.sem, wp_bind', W.resolveClassAt_links (State.method?_setTop (F0 mi pc ls (.int y :: .int x :: rest)) Z.here.top) hent]
    rw [W.popN, if_neg (by decide)]
    refine ⟨F0 mi pc ls (.int y :: .int x :: rest), State.topJava?_setTop' (s := T0.setVm vm1) _ Z.here.top, [.int x, .int y], rest, rfl, rfl, ?_⟩
    simp only [List.mapM_cons, List.mapM_nil, wp_bind', wp_pure']
    refine gr_all (kA := kA1) (kI := kI1) (cI := cM 0) (cc := cc) hkA1 (by rw [heA]; exact hkindA) hkI1 (by rw [heI]; exact hkindI) hx0 hy0 (by rw [hl]; omega) (by rw [hh]; omega) (by rw [hl]; omega) (by rw [hh]; omega) (by show T0.heap.size + 1 + _ ≤ _; omega) (by show T0.slotsUsed + _ + _ ≤ _; omega) (fun d' acts' => ?_)
    rw [show ((T0.setTop (F0 mi pc ls (.int y :: .int x :: rest))).setVm vm1).setTop { F0 mi pc ls (.int y :: .int x :: rest) with stack := rest } = (T0.setVm vm1).setTop { F0 mi pc ls (.int y :: .int x :: rest) with stack := rest } by
      show ((T0.setVm vm1).setTop _).setTop _ = _
      rw [State.setTop_setTop], gS_top]
    simp only [wp_bind', W.mark, W.pushRef, State.topJava?_setTop' _ Z2.here.top, Option.some.injEq, exists_eq_left', State.setTop_setTop, State.heap_setTop]
    intro acts2
    simp [jvm, Z2.here.top]
    exact a1
  · cases j with
    | zero =>
      cases hj
      show _ = some (vp_cell (cM 6) (x.toNatClampNeg, .inr (.inr (.inr (.inr (mgR b0 (kups w.length x.toNatClampNeg)))))))
      rw [Nat.add_zero, ← hsz, f2, hsz, vp_cell_q]
      exact congrArg (fun f => some (arrV (cM 6) x.toNatClampNeg f)) (funext fun j => gO_mgR b0 w.length x.toNatClampNeg j)
    | succ j =>
      rw [List.getElem?_cons_succ] at hj
      have hjl : j < x.toNatClampNeg := by
        have := (List.getElem?_eq_some_iff.mp hj).1
        rwa [List.length_replicate] at this
      rw [List.getElem?_replicate, if_pos hjl] at hj
      cases hj
      show _ = some (vp_cell (cM 0) (mbd y.toNatClampNeg 0 []))
      rw [show b0 + (w.length + (j + 1)) = T0.heap.size + 1 + j by rw [hsz]; omega, f6 j hjl]
      rfl
  · rcases List.mem_append.mp hq with h | h
    · exact hI.2.2.2.2 q h
    · show b0 ≤ q.base
      have h1 : q.base = T0.heap.size := hL' q h
      rw [h1, hsz]
      exact Nat.le_add_right b0 w.length
/-- a field is written -/
theorem mk_put (X : KX p s mi args meth c b0 cM D ci) (hI : KI b0 cM D s w H locs) {k0 k idx : Nat} {o : List FV} (hw : w[k0]? = some (.inl (ci, o))) (hk : k < (Tc ci).2.2) (hlink : Cond.fieldLink (cnm ci) idx ((Tc ci).2.1 k).1 ((Tc ci).2.1 k).2.1 ((Tc ci).2.1 k).2.2.1 ∈ WS) (hdecl : ((Tc ci).2.1 k).1 = cnm ci) (hlen : k < o.length) {v : AV} (hv : kfok ci k v = true) (hdg : decode (kbt ci) pc = .ok (.putfield idx, 3)) {rest : List Value}
    (kk : ∀ H1 locs1, KI b0 cM D s (w.set k0 (.inl (ci, o.set k (some v)))) H1 locs1 → W p l e R s mi args below meth c H1 locs1 cells n Q (F0 mi (pc + 3) ls rest)) : W p l e R s mi args below meth c H locs cells n Q (F0 mi pc ls (conc (α0 b0) v :: .ref (b0 + k0) :: rest)) := by
  obtain ⟨hx, hb, hml, hown, hts, hW, hnm, hb0, hci, hrt, hlk⟩ := X
  obtain ⟨ty0, hty, hnn⟩ := Tc_ty hci
  have hfit : ∃ ty, parseFieldDescriptor ((Tc ci).2.1 k).2.2.1 = some ty ∧ narrow ty (conc (α0 b0) v) = conc (α0 b0) v ∧ fits ty (conc (α0 b0) v) = true := by
    unfold kfok at hv
    rw [hty k hk] at hv ⊢
    rcases v with x | x | q
    · rw [Bool.and_eq_true] at hv
      exact ⟨_, rfl, of_decide_eq_true hv.1, hv.2⟩
    · cases hv
    · exact ⟨_, rfl, ref_ok hv _⟩
  obtain ⟨ty, hd, hn, hf⟩ := hfit
  have hap := va_apart (own := cnm ci) hts (uw_in hci) ty0 hty hnn hW.1 (Tc_at hci)
  have he := mr_at (b0 := b0) (cM := cM) hw
  obtain ⟨r, h1, cell, q1, q2, q3, q4⟩ := hI.2.1 k0 _ he
  have hr : r = ((Tc ci).1, (Tc ci).2.1, (Tc ci).2.2) := Option.some.inj (h1.symm.trans (Tc_at hci))
  subst hr
  obtain ⟨hS, hfc, kC, hkC, hkind⟩ := hW.1.1 ci _ (Tc_at hci)
  obtain ⟨cf, kf, fi, f, hi, hsl⟩ := hS k hk
  have hlay := hts _ (uw_in hci _ (u_in_lay hk))
  have hst := (u_facts hfc hkC (u_lays hts (uw_in hci) hk) hi).1
  have hgo : ∀ (H1 : Heap), H1[b0 + k0]? = some (cell.setSlot (D.2 ci k) (conc (α0 b0) v)) → H1.size = H.size → (∀ q, q ≠ b0 + k0 → H1[q]? = H[q]?) → W p l e R s mi args below meth c H1 (locs ++ [⟨b0 + k0, D.2 ci k⟩]) cells n Q (F0 mi (pc + 3) ls rest) := by
    intro H1 e1 e2 e3
    have hP1 := hI.2.1.set mr_D he (e := .inr (ci, (o.map (kfv b0)).set k (conc (α0 b0) v))) ⟨_, Tc_at hci, t_OB.to (V := updV (vp_V (o.map (kfv b0))) k (conc (α0 b0) v)) ⟨_, e1, q2, q3, t_set q4 hap hk _⟩ (fun j _ => vp_updV_set (by rw [List.length_map]; exact hlen) _ j)⟩ e3
    refine kk H1 _ (KI.put hI (by rw [List.length_set]) (hI.2.2.put e2 e3 (mr_D.2 k0 _ he)) ?_ e2)
    rw [← mr_set hw]
    rw [show mre b0 cM (.inl (ci, o.set k (some v))) = .inr (ci, (o.map (kfv b0)).set k (conc (α0 b0) v)) by show Sum.inr (ci, (o.set k (some v)).map (kfv b0)) = _; rw [List.map_set]; rfl]
    exact hP1
  unfold u_lay at hlay
  cases hfin : ((Tc ci).2.1 k).2.2.2
  · rw [if_neg (by rw [hfin]; decide)] at hlay
    have h6 := u_store hfc hkC hkind hlay hi hd hn hf
    refine W.putK hx hb (f := f) ⟨hown, hts _ hlink, ⟨_, _, _, hi⟩, hst⟩ (by rw [q2]; exact h6) q1 q3 (by rw [hsl]; exact k2_hasslot (q4 k hk)) rfl rfl hdg fun H' e1 e2 e3 => ?_
    rw [hsl] at e1 ⊢
    exact hgo H' e1 e2 e3
  · rw [if_pos hfin] at hlay
    have hcf : mi.cls = cf := by
      obtain ⟨_, _, c', _, _, _, -, -, hf', -, -, -, hown2, -⟩ := Cond.laysFinal_spec hlay
      have e1 : c' = cf := by have := hi.symm.trans hf'; simp at this; exact this.1.symm
      rw [hdecl] at hown2
      rw [← e1]; exact Option.some.inj (hown.symm.trans hown2)
    have h6 := u_fits hfc hkC hkind (Or.inr hlay) hi hd hn hf
    refine W.putFinK hx hb hown (hts _ hlink) hi hst hcf hnm (by rw [q2]; exact h6) q1 q3 (by rw [hsl]; exact k2_hasslot (q4 k hk)) rfl rfl hdg fun H' e1 e2 e3 => ?_
    rw [hsl] at e1 ⊢
    exact hgo H' e1 e2 e3
/-- an int is written into an array -/
theorem mk_iast (X : KX p s mi args meth c b0 cM D ci) (hI : KI b0 cM D s w H locs) {k0 N : Nat} {us : List (Nat × Int32)} (hw : w[k0]? = some (.inr (.inl (0, N, us)))) {i x : Int32} (hi0 : ¬ i < 0) (hi1 : i.toNatClampNeg < N) (hdg : decode (kbt ci) pc = .ok (.iastore, 1)) {rest : List Value}
    (kk : ∀ H1 locs1, KI b0 cM D s (w.set k0 (.inr (.inl (0, N, (i.toNatClampNeg, x) :: us)))) H1 locs1 → W p l e R s mi args below meth c H1 locs1 cells n Q (F0 mi (pc + 1) ls rest)) : W p l e R s mi args below meth c H locs cells n Q (F0 mi pc ls (.int x :: .int i :: .ref (b0 + k0) :: rest)) := by
  obtain ⟨hx, hb, hml, hown, hts, hW, hnm, hb0, hci, hrt, hlk⟩ := X
  have he := mr_at (b0 := b0) (cM := cM) hw
  have hin : vp_in i N := fun q => q.elim hi0 (fun q => by omega)
  refine W.iast hx hb (hI.2.1 k0 _ he) ((hW.1.2 0 _ (mtys_at (by decide))).1 N (fun j => .int (mgI us j))) (fun q => by cases q) (by show ¬ (i < 0 ∨ (arrV _ _ _).slots.size ≤ _); rw [arrV_size]; exact hin) rfl rfl hdg fun H1 e z oq => ?_
  have hP1 := hI.2.1.set mr_D he (e := mre b0 cM (.inr (.inl (0, N, (i.toNatClampNeg, x) :: us)))) (by
    show H1[b0 + k0]? = some (vp_cell (cM 0) (mbd N 0 ((i.toNatClampNeg, x) :: us)))
    rw [e]
    show some ((arrV (cM 0) N (fun j => .int (mgI us j))).setSlot i.toNatClampNeg (.int x)) = some (arrV (cM 0) N (fun j => .int (upd (mgI us) i.toNatClampNeg x j)))
    rw [arrV_store]
    congr 2
    funext q
    by_cases hq : q = i.toNatClampNeg
    · subst hq
      simp [updV, upd]
    · simp [updV, upd, hq]) oq
  rw [mr_set hw] at hP1
  exact kk H1 _ (KI.put hI (by rw [List.length_set]) (hI.2.2.put z oq (mr_D.2 k0 _ he)) hP1 z)
/-- an object is written into an array -/
theorem mk_aast (X : KX p s mi args meth c b0 cM D ci) (hI : KI b0 cM D s w H locs) {k0 N t0 kv cv : Nat} {us : List (Nat × Nat)} {fv : List FV} (hw : w[k0]? = some (.inr (.inr (t0, N, us)))) (hwv : w[kv]? = some (.inl (cv, fv))) (ht : t0 < 7) (hc : cv < 13) (hty : mty t0 = .object (Tc cv).1) {i : Int32} (hi0 : ¬ i < 0) (hi1 : i.toNatClampNeg < N) (hdg : decode (kbt ci) pc = .ok (.aastore, 1)) {rest : List Value}
    (kk : ∀ H1 locs1, KI b0 cM D s (w.set k0 (.inr (.inr (t0, N, (i.toNatClampNeg, kv) :: us)))) H1 locs1 → W p l e R s mi args below meth c H1 locs1 cells n Q (F0 mi (pc + 1) ls rest)) : W p l e R s mi args below meth c H locs cells n Q (F0 mi pc ls (.ref (b0 + kv) :: .int i :: .ref (b0 + k0) :: rest)) := by
  obtain ⟨hx, hb, hml, hown, hts, hW, hnm, hb0, hci, hrt, hlk⟩ := X
  have he := mr_at (b0 := b0) (cM := cM) hw
  have hev := mr_at (b0 := b0) (cM := cM) hwv
  obtain ⟨r', hr', cellV, g1, g2, g3, -⟩ := hI.2.1 kv _ hev
  have hcls := (hW.1.1 cv _ (Tc_at hc)).2
  have hra := (hW.1.2 t0 _ (mtys_at ht)).2
  rw [hty] at hra
  obtain ⟨kA, comp, k1, k2, k3, -⟩ := hra
  have hcomp : comp = D.1 cv := Option.some.inj (k3.symm.trans hcls.1)
  subst hcomp
  obtain ⟨kC, hkC, -⟩ := hcls.2
  refine W.aast hx hb (hI.2.1 k0 _ he) (fun q h => by cases h) (fun h => by cases h) k1 k2 rfl hkC ⟨hi0, by show _ < (arrV _ _ _).slots.size; rw [arrV_size]; exact hi1⟩ g1 (fun q h => by rw [g3] at h; cases h) (by rw [g2]; exact hkC) (by rw [g2]; exact va_assign hcls) rfl rfl hdg fun H1 e z oq => ?_
  have hP1 := hI.2.1.set mr_D he (e := mre b0 cM (.inr (.inr (t0, N, (i.toNatClampNeg, kv) :: us)))) (by
    show H1[b0 + k0]? = some (vp_cell (cM t0) (N, .inr (.inr (.inr (.inr (va_up (mgR b0 us) i.toNatClampNeg (some (b0 + kv))))))))
    rw [e]
    show some ((arrV (cM t0) N (fun j => va_rf (mgR b0 us j))).setSlot i.toNatClampNeg (.ref (b0 + kv))) = some (arrV (cM t0) N (fun j => va_rf (va_up (mgR b0 us) i.toNatClampNeg (some (b0 + kv)) j)))
    rw [arrV_store]
    congr 2
    funext q
    by_cases hq : q = i.toNatClampNeg
    · subst hq
      simp [updV, va_up, va_rf]
    · simp [updV, va_up, hq]) oq
  rw [mr_set hw] at hP1
  exact kk H1 _ (KI.put hI (by rw [List.length_set]) (hI.2.2.put z oq (mr_D.2 k0 _ he)) hP1 z)
end MKS
