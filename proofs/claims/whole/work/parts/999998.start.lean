/-! THE START: the law's first instructions, what the tables and the texts give, the store at the start -/
section MKF
variable {p : Program} {l : Launch} {e : Env} {R : Room} {s : State} {mi : MethodId} {args : Array Value} {below : List Frame} {meth : Method} {c : Code} {Q : State → Prop} {b0 : Nat} {cM : Nat → ClassId} {D : va_G} {d : Nat}
variable {pc cells n : Nat} {w : MW} {H : Heap} {locs : List Loc} {ls : Array Slot}
theorem fx_new (hx : p.tables.exec = Jvm.exec) {bc : ByteArray} (hb : c.code = bc) {own : String} (hown : s.vm.findClass own = some mi.cls) (hts : ∀ w ∈ WS, w.before args s = true) (hW : KW cM D s) (hI : KI b0 cM D s w H locs) {ci' idx : Nat} (hc' : ci' < 13) (hcl : Cond.classLink own idx (Tc ci').1 ∈ WS) (hc : cells + 1 ≤ R.cells) (hs : n + (Tc ci').2.2 ≤ R.slots) (hd : decode bc pc = .ok (.new idx, 3)) {rest : List Value}
    (kk : ∀ H1, KI b0 cM D s (w ++ [.inl (ci', kbl ci')]) H1 locs → W p l e R s mi args below meth c H1 locs (cells + 1) (n + (Tc ci').2.2) Q (F0 mi (pc + 3) ls (.ref (b0 + w.length) :: rest))) : W p l e R s mi args below meth c H locs cells n Q (F0 mi pc ls rest) := by
  obtain ⟨w1, w2, w3, w4, w5, w6, w7, w8, w9, w10⟩ := kd_of hc'
  obtain ⟨ty, hty, hdf⟩ := kbl_ok ci' hc'
  have hKn := hW.1.1 ci' _ (Tc_at hc')
  refine W.newcK hx hb hown (hts _ hcl) (hts _ w4) (hts _ (by rw [w6, ← w5]; exact w2)) rfl hd hc hs hKn.2.1 rfl fun H1 kC hkC e1 z1 o1 => ?_
  have hsz := hI.1
  have hfin := kk H1 ⟨by rw [z1, hI.1, List.length_append]; rfl, mr_grow hI.2.1 o1 (fun j cc hj => ?_), ⟨Nat.le_trans hI.2.2.1 (by omega), fun q h1 h2 => (o1 q (Nat.lt_of_lt_of_le h1 hI.2.2.1)).trans (hI.2.2.2.1 q h1 h2), hI.2.2.2.2⟩⟩
  · rw [← hsz] at hfin
    exact hfin
  · have hj0 : j = 0 := by
      have := (List.getElem?_eq_some_iff.mp hj).1
      simpa using this
    subst hj0
    cases hj
    refine ⟨_, Tc_at hc', ?_⟩
    show t_OB (b0 + (w.length + 0)) _ _ _ H1 _
    rw [Nat.add_zero, ← hsz]
    exact (u_born ty hts (uw_in hc') hKn hkC e1 hty).to (hdf b0)
theorem fx_call (hx : p.tables.exec = Jvm.exec) {bc : ByteArray} (hb : c.code = bc) {nL : Nat} (hml : c.maxLocals = nL) {own : String} (hown : s.vm.findClass own = some mi.cls) (hts : ∀ w ∈ WS, w.before args s = true) (hW : KW cM D s) {C : Nat → List AV → MW → Option MW} (hC : CSk l b0 cM D d C) (hR : d + 1 ≤ R.frames ∧ 64 * (d + 1) ≤ R.locals) (hI : KI b0 cM D s w H locs) {ci' idx k0 : Nat} {w' : MW} (hc' : ci' < 13) (hcall : C ci' [.inr (.inr (k0, 0))] w = some w') (hlink : Cond.methodLink own idx (kyn ci') ∈ WS) (hA : knp ci' = 0) {rest : List Value} (hcat : (rest.map fun v => v.category).sum ≤ 8) (hf : cells + (klm ci' [.inr (.inr (k0, 0))]).1 ≤ R.cells ∧ n + (klm ci' [.inr (.inr (k0, 0))]).2 ≤ R.slots) (hls : ls.size = nL) (hd : decode bc pc = .ok (.invokespecial idx, 3))
    (kk : ∀ H1 locs1, KI b0 cM D s w' H1 locs1 → W p l e R s mi args below meth c H1 locs1 (cells + (klm ci' [.inr (.inr (k0, 0))]).1) (n + (klm ci' [.inr (.inr (k0, 0))]).2) Q (F0 mi (pc + 3) ls rest)) : W p l e R s mi args below meth c H locs cells n Q (F0 mi pc ls (.ref (b0 + k0) :: rest)) := by
  obtain ⟨w1, w2, w3, w4, w5, w6, w7, w8, w9, w10⟩ := kd_of hc'
  have hM := hC _ _ _ _ hcall hc'
  have hpre : PreS s H (va_Pc (([.inr (.inr (k0, 0))] : List AV).map (conc (α0 b0))) (PreK b0 cM D w)) [.ref (b0 + k0)] := ⟨blind_K, fun U hU hW' => ⟨rfl, by rw [hU]; exact hI.1, by rw [hU]; exact hI.2.1, hW.moved hW'⟩⟩
  have hroom : (rmk d (klm ci' [.inr (.inr (k0, 0))]).1 (klm ci' [.inr (.inr (k0, 0))]).2).frames + 1 ≤ R.frames ∧ 8 + (kml ci' + 11) + (rmk d (klm ci' [.inr (.inr (k0, 0))]).1 (klm ci' [.inr (.inr (k0, 0))]).2).locals ≤ R.locals := by
    show d + 1 ≤ R.frames ∧ 8 + (kml ci' + 11) + 64 * d ≤ R.locals
    omega
  exact run_K (va_runI (As := []) (rest := rest) ⟨hx, hb, hml, hown, hts⟩ hM (cwI (knp ci') hts (good_kwsm hc') rfl rfl rfl (hts _ w2) (hts _ hlink) (hts _ w3) w8 w9 hroom) hpre rfl (by rw [hA]; rfl) hls rfl (lv_room' hcat) hd hf) hI kk
theorem lwl_ok : Cond.classLink RL 7 (Tc 11).1 ∈ WS ∧ Cond.methodLink RL 9 (kyn 11) ∈ WS ∧ Cond.classLink RL 10 (Tc 12).1 ∈ WS ∧ Cond.methodLink RL 12 (kyn 12) ∈ WS := ⟨WS_in (inT_mem (k := 1021) (by decide +kernel)) rfl, WS_in (inT_mem (k := 1023) (by decide +kernel)) rfl, WS_in (inT_mem (k := 6145) (by decide +kernel)) rfl, WS_in (inT_mem (k := 6147) (by decide +kernel)) rfl⟩
/-- the law's first instructions: both programs are made -/
theorem law_made {b : Nat} (hx : p.tables.exec = Jvm.exec) (hb : c.code = code) (hml : c.maxLocals = 4) (hown : s.vm.findClass RL = some mi.cls) (hts : ∀ w ∈ WS, w.before args s = true) (hW : KW cM D s)
    (kk : ∀ H locs ls, KI s.heap.size cM D s kwB H locs → lv_has ls 4 [(3, .int 0), (2, .ref (s.heap.size + 195)), (1, .ref (s.heap.size + 0)), (0, .ref b)] → W p l e room_1 s mi args below meth c H locs 600000 7302250 Q (F0 mi 18 ls [])) : W p l e room_1 s mi args below meth c s.heap [] 0 0 Q (entryFrame mi ([Value.ref b] : List Value).toArray 4) := by
  rw [lg_entry_eq]
  have h0 := lv_entry [Value.ref b] (n := 4) (show (1 : Nat) ≤ 4 by decide)
  generalize ((lg_sl [Value.ref b] ++ List.replicate (4 - (lg_sl [Value.ref b]).length) Slot.unset).toArray) = ls0 at h0 ⊢
  have h0 : lv_has ls0 4 [(0, .ref b)] := h0
  have hI0 : KI s.heap.size cM D s [] s.heap [] := ⟨rfl, (fun k q hq => by rw [mr_get] at hq; cases hq), va_S.rf⟩
  refine fx_new hx hb hown hts hW hI0 (ci' := 11) (by decide) lwl_ok.1 (by decide) (by decide +kernel) (by decide +kernel) (fun H1 hI1 => ?_)
  refine lv_dup hx hb (by decide +kernel) rfl ?_
  refine fx_call hx hb hml hown hts hW (snd_krun l s.heap.size cM D 4) (by decide) hI1 (ci' := 11) (k0 := 0) (by decide) kwA_ok lwl_ok.2.1 rfl (by simp [Value.category]) ⟨by decide +kernel, by decide +kernel⟩ h0.1 (by decide +kernel) (fun H2 locs2 hI2 => ?_)
  refine lv_astore_n hx hb (k := 1) (by decide +kernel) rfl h0 (by decide) rfl (fun ls1 h1 => ?_)
  refine fx_new hx hb hown hts hW hI2 (ci' := 12) (by decide) lwl_ok.2.2.1 (by decide +kernel) (by decide +kernel) (by decide +kernel) (fun H3 hI3 => ?_)
  rw [kwA_len]
  refine lv_dup hx hb (by decide +kernel) rfl ?_
  refine fx_call hx hb hml hown hts hW (snd_krun l s.heap.size cM D 4) (by decide) hI3 (ci' := 12) (k0 := 195) (by decide) kwB_ok lwl_ok.2.2.2 rfl (by simp [Value.category]) ⟨by decide +kernel, by decide +kernel⟩ h1.1 (by decide +kernel) (fun H4 locs4 hI4 => ?_)
  refine lv_astore_n hx hb (k := 2) (by decide +kernel) rfl h1 (by decide) rfl (fun ls2 h2 => ?_)
  refine lv_iconst hx hb (n := 0) (v := 0) (by decide +kernel) rfl ?_
  refine lv_istore_n hx hb (k := 3) (by decide +kernel) rfl h2 (by decide) rfl (fun ls3 h3 => ?_)
  exact W.widen (by decide +kernel) (by decide +kernel) (kk H4 locs4 ls3 hI4 h3)
end MKF
