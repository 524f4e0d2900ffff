/-! String.length and String.charAt over the twelve texts, as the JDK's code -/
/-- what stands inside a body -/
def TBc (l : Launch) (p : Program) (s : State) (mi : MethodId) (av : List Value) (meth : Method) (c : Code) (y : MethodName) (b : ByteArray) (ml : Nat) (rt : Option FieldType) (α : Nat → Nat → Nat) (cT : Nat → ClassId) (D : va_G) (adV : Nat → Nat) (σ : St) (ls : Array Slot) : Prop :=
  p.tables.exec = Jvm.exec ∧ c.code = b ∧ c.maxLocals = ml ∧ meth.sig.returnType = rt ∧ meth.locks = false ∧ s.vm.findClass y.cls = some mi.cls ∧ (∀ w ∈ WS, w.before av.toArray s = true) ∧ KK α cT D s ∧ vzS α adV (AA α s.heap.size) s s.heap ∧ IW α cT D s false (fun _ => 0) 0 σ s.heap [] ∧ lv_has ls ml (lv_args 0 av)
section TCS
variable {l : Launch} {p : Program} {s : State} {mi : MethodId} {av : List Value} {meth : Method} {c : Code} {y : MethodName} {b : ByteArray} {ml : Nat} {rt : Option FieldType} {α : Nat → Nat → Nat} {cT : Nat → ClassId} {D : va_G} {adV : Nat → Nat} {σ : St} {ls : Array Slot}
theorem TBc.hx (X : TBc l p s mi av meth c y b ml rt α cT D adV σ ls) : p.tables.exec = Jvm.exec := X.1
theorem TBc.hb (X : TBc l p s mi av meth c y b ml rt α cT D adV σ ls) : c.code = b := X.2.1
theorem TBc.hml (X : TBc l p s mi av meth c y b ml rt α cT D adV σ ls) : c.maxLocals = ml := X.2.2.1
theorem TBc.hr (X : TBc l p s mi av meth c y b ml rt α cT D adV σ ls) : meth.sig.returnType = rt := X.2.2.2.1
theorem TBc.hlk (X : TBc l p s mi av meth c y b ml rt α cT D adV σ ls) : meth.locks = false := X.2.2.2.2.1
theorem TBc.hown (X : TBc l p s mi av meth c y b ml rt α cT D adV σ ls) : s.vm.findClass y.cls = some mi.cls := X.2.2.2.2.2.1
theorem TBc.hts (X : TBc l p s mi av meth c y b ml rt α cT D adV σ ls) : ∀ w ∈ WS, w.before av.toArray s = true := X.2.2.2.2.2.2.1
theorem TBc.hKK (X : TBc l p s mi av meth c y b ml rt α cT D adV σ ls) : KK α cT D s := X.2.2.2.2.2.2.2.1
theorem TBc.hvk (X : TBc l p s mi av meth c y b ml rt α cT D adV σ ls) : vzS α adV (AA α s.heap.size) s s.heap := X.2.2.2.2.2.2.2.2.1
theorem TBc.hI (X : TBc l p s mi av meth c y b ml rt α cT D adV σ ls) : IW α cT D s false (fun _ => 0) 0 σ s.heap [] := X.2.2.2.2.2.2.2.2.2.1
theorem TBc.hl (X : TBc l p s mi av meth c y b ml rt α cT D adV σ ls) : lv_has ls ml (lv_args 0 av) := X.2.2.2.2.2.2.2.2.2.2
end TCS
section TXS
variable {l : Launch} {α : Nat → Nat → Nat} {cT : Nat → ClassId} {D : va_G} {adV : Nat → Nat} {σ : St}
theorem tx_ent {y : MethodName} {b : ByteArray} {ml : Nat} {rt : Option FieldType} {k sz : Nat} {av : List Value} {res : Option AV} (hp : plainName y.cls = true) (hlen : (lg_sl av).length ≤ ml)
    (kk : ∀ (p : Program) (e : Env) (s : State) (mi : MethodId) (below : List Frame) (meth : Method) (c : Code) (ls : Array Slot), TBc l p s mi av meth c y b ml rt α cT D adV σ ls →
      W p l e (rmm k) s mi av.toArray below meth c s.heap [] 0 0 (MQ below (QM α cT D res σ s.heap.size) av.toArray s 0 0 (AA α s.heap.size)) (F0 mi 0 ls [])) :
    Met l y (Cond.code y b ml rt :: WS) (rmm k) (va_Pc av (PreM α cT D adV σ sz)) (QM α cT D res σ sz) 0 0 (AA α sz) := by
  refine Met.ofW (cc := b) (maxL := ml) (ret := rt) hp rfl ?_
  intro p e s mi args below meth c s₁ B hml hv
  obtain ⟨rfl, hsz, hP, hKK, hD, hvk⟩ := hv
  subst hsz
  have hx := B.exec
  have hb := B.bytes
  have hr := B.returns
  have hts0 := atoms_spec (ws := Cond.code y b ml rt :: WS) B.pre
  have hown : s.vm.findClass y.cls = some mi.cls := findClass_of_methodNamed B.named
  have hlocks := B.notSynchronized
  rw [lg_entry_eq]
  exact kk p e s mi below meth c _ ⟨hx, hb, hml, hr, hlocks, hown, fun w hw => hts0 w (List.mem_cons_of_mem _ hw), hKK, hvk, ⟨hP, hD, va_S.rf, fun q => by cases q⟩, lv_entry av hlen⟩
section TXB
variable {p : Program} {e : Env} {s : State} {mi : MethodId} {below : List Frame} {meth : Method} {c : Code} {Q : State → Prop} {av : List Value} {y : MethodName} {b : ByteArray} {ml : Nat} {rt : Option FieldType} {ls : Array Slot} {k pc : Nat} {H : Heap} {locs : List Loc} {rest : List Value}
theorem tx_pre (X : TBc l p s mi av meth c y b ml rt α cT D adV σ ls) (hI : IW α cT D s false (fun _ => 0) 0 σ H locs) {U : State} (hU : U.heap = H) (hW : s.WarmedH U.vm) : PreM α cT D adV σ H.size U := by
  have hsz : s.heap.size ≤ H.size := hI.2.2.1.1
  refine ⟨by rw [hU], by rw [hU]; exact hI.1, X.hKK.moved hW, ⟨hI.2.1.1, fun k q hq => ?_⟩, ?_⟩
  · obtain ⟨t, i⟩ := q
    unfold wl at hq
    rw [List.getElem?_map] at hq
    cases hd : dom[k]? with
    | none => rw [hd] at hq; cases hq
    | some x =>
      rw [hd] at hq
      cases hq
      exact Or.inl ⟨x, List.mem_of_getElem? hd, rfl⟩
  · have h1 := (X.hvk.kept hI.2.2.1.2.1).narrow (AA_mono (α := α) hsz)
    rw [hU]
    exact h1.moved hW.alike
theorem tx_S (X : TBc l p s mi av meth c y b ml rt α cT D adV σ ls) {idx : Nat} {y' : MethodName} {b' : ByteArray} {ml' : Nat} {rt' : Option FieldType} {k' : Nat} {As : List Value} {res : Option AV}
    (hd : decode b pc = .ok (.invokestatic idx, 3)) (hw : Cond.methodLink y.cls idx y' ∈ WS ∧ Cond.static y' ∈ WS ∧ Cond.initialized y'.cls ∈ WS ∧ Cond.code y' b' ml' rt' ∈ WS)
    (hpd : y'.cls ≠ "java/lang/invoke/MethodHandle" ∧ y'.cls ≠ "java/lang/invoke/VarHandle" ∧ (parseMethodDescriptor y'.desc).map (fun d => d.parameters.length) = some As.length) (hcat : (rest.map fun v => v.category).sum ≤ 8) (hml' : ml' ≤ 10) (hk : k' + 1 ≤ k) (hI : IW α cT D s false (fun _ => 0) 0 σ H locs)
    (hM : Met l y' (Cond.code y' b' ml' rt' :: WS) (rmm k') (va_Pc As (PreM α cT D adV σ H.size)) (QM α cT D res σ H.size) 0 0 (AA α H.size))
    (kk : ∀ H1 locs1, IW α cT D s false (fun _ => 0) 0 σ H1 locs1 → W p l e (rmm k) s mi av.toArray below meth c H1 locs1 0 0 Q (F0 mi (pc + 3) ls ((res.map (conc α)).toList ++ rest))) : W p l e (rmm k) s mi av.toArray below meth c H locs 0 0 Q (F0 mi pc ls (As.reverse ++ rest)) := by
  have hpre : PreS s H (va_Pc As (PreM α cT D adV σ H.size)) As := ⟨blind_M, fun U hU hW => ⟨rfl, tx_pre X hI hU hW⟩⟩
  have cw := va_cwS (R := rmm k) (own := y.cls) (index := idx) (y := y') (bytes := b') (maxL := ml') (ret := rt') (mc := 0) (ms := 0) (rm := rmm k') (ws := Cond.code y' b' ml' rt' :: WS) As.length X.hts (fun w hw' => by
    rcases List.mem_append.mp (show w ∈ ([.methodLink y.cls idx y', .static y', .initialized y'.cls] : List Cond) ++ (Cond.code y' b' ml' rt' :: WS) from hw') with h | h
    · simp only [List.mem_cons, List.not_mem_nil, or_false] at h
      rcases h with rfl | rfl | rfl
      · exact ⟨hw.1, WS_good hw.1⟩
      · exact ⟨hw.2.1, WS_good hw.2.1⟩
      · exact ⟨hw.2.2.1, WS_good hw.2.2.1⟩
    · rcases List.mem_cons.mp h with rfl | h
      · exact ⟨hw.2.2.2, WS_good hw.2.2.2⟩
      · exact ⟨h, WS_good h⟩) rfl rfl rfl hpd (by
      show k' + 1 ≤ k ∧ 8 + (ml' + 11) + 64 * k' ≤ 64 * k
      omega)
  exact run_W (va_runS (As := As) (rest := rest) ⟨X.hx, X.hb, X.hml, X.hown, X.hts⟩ hM cw hpre rfl rfl X.hl.1 rfl (lv_room' hcat) hd ⟨Nat.le_refl _, Nat.le_refl _⟩) hI (fun _ _ => rfl) kk
theorem tx_V (X : TBc l p s mi av meth c y b ml rt α cT D adV σ ls) {idx i : Nat} {y' : MethodName} {b' : ByteArray} {ml' : Nat} {rt' : Option FieldType} {k' : Nat} {As : List Value} {res : Option AV}
    (hd : decode b pc = .ok (.invokevirtual idx, 3)) (hw : Cond.methodLink y.cls idx y' ∈ WS ∧ Cond.instanceMethod y' ∈ WS ∧ Cond.selects "java/lang/String" y' y' ∈ WS ∧ Cond.initialized "java/lang/String" ∈ WS ∧ Cond.code y' b' ml' rt' ∈ WS) (hy : y'.cls = "java/lang/String")
    (hpd : (parseMethodDescriptor y'.desc).map (fun d => d.parameters.length) = some As.length) (hi : i < 12) (hcat : (rest.map fun v => v.category).sum ≤ 8) (hml' : ml' ≤ 10) (hk : k' + 1 ≤ k) (hI : IW α cT D s false (fun _ => 0) 0 σ H locs)
    (hM : Met l y' (Cond.code y' b' ml' rt' :: WS) (rmm k') (va_Pc (.ref (α 494 i) :: As) (PreM α cT D adV σ H.size)) (QM α cT D res σ H.size) 0 0 (AA α H.size))
    (kk : ∀ H1 locs1, IW α cT D s false (fun _ => 0) 0 σ H1 locs1 → W p l e (rmm k) s mi av.toArray below meth c H1 locs1 0 0 Q (F0 mi (pc + 3) ls ((res.map (conc α)).toList ++ rest))) : W p l e (rmm k) s mi av.toArray below meth c H locs 0 0 Q (F0 mi pc ls (As.reverse ++ .ref (α 494 i) :: rest)) := by
  have hpre : PreV s H "java/lang/String" (α 494 i) (va_Pc (.ref (α 494 i) :: As) (PreM α cT D adV σ H.size)) As := ⟨blind_M, vk_recv X.hvk.1 hi hI.2.2.1, fun U hU hW => ⟨rfl, tx_pre X hI hU hW⟩⟩
  have cw := cwV (R := rmm k) (own := y.cls) (C := "java/lang/String") (index := idx) (y := y') (bytes := b') (maxL := ml') (ret := rt') (mc := 0) (ms := 0) (rm := rmm k') (ws := Cond.code y' b' ml' rt' :: WS) As.length X.hts (fun w hw' => by
    rcases List.mem_append.mp (show w ∈ ([.methodLink y.cls idx y', .instanceMethod y', .selects "java/lang/String" y' y', .initialized "java/lang/String"] : List Cond) ++ (Cond.code y' b' ml' rt' :: WS) from hw') with h | h
    · simp only [List.mem_cons, List.not_mem_nil, or_false] at h
      rcases h with rfl | rfl | rfl | rfl
      · exact ⟨hw.1, WS_good hw.1⟩
      · exact ⟨hw.2.1, WS_good hw.2.1⟩
      · exact ⟨hw.2.2.1, WS_good hw.2.2.1⟩
      · exact ⟨hw.2.2.2.1, WS_good hw.2.2.2.1⟩
    · rcases List.mem_cons.mp h with rfl | h
      · exact ⟨hw.2.2.2.2, WS_good hw.2.2.2.2⟩
      · exact ⟨h, WS_good h⟩) rfl rfl rfl ⟨hy, by rw [hy]; decide +kernel, by rw [hy]; decide +kernel, hpd⟩ (by
      show k' + 1 ≤ k ∧ 8 + (ml' + 11) + 64 * k' ≤ 64 * k
      omega)
  exact run_W (va_runV (As := As) (rest := rest) ⟨X.hx, X.hb, X.hml, X.hown, X.hts⟩ hM cw hpre rfl rfl X.hl.1 rfl (lv_room' hcat) hd ⟨Nat.le_refl _, Nat.le_refl _⟩) hI (fun _ _ => rfl) kk
end TXB
theorem tw_comp : Cond.fieldLink RJ0 38 RJ0 "COMPACT_STRINGS" "Z" ∈ WS := WS_in (inT_mem (k := 2218) (by decide +kernel)) rfl
theorem tw_val : Cond.fieldLink RJ0 9 RJ0 "value" "[B" ∈ WS := WS_in (inT_mem (k := 10013) (by decide +kernel)) rfl
theorem tw_cod : Cond.fieldLink RJ0 15 RJ0 "coder" "B" ∈ WS := WS_in (inT_mem (k := 10014) (by decide +kernel)) rfl
theorem tw_fmt : Cond.fieldLink RJ0 1053 RJ3 "SIOOBE_FORMATTER" "Ljava/util/function/BiFunction;" ∈ WS := WS_in (inT_mem (k := 2234) (by decide +kernel)) rfl
theorem tw_coder : Cond.methodLink RJ0 335 yJ0_coder_7d493 ∈ WS ∧ Cond.instanceMethod yJ0_coder_7d493 ∈ WS ∧ Cond.selects "java/lang/String" yJ0_coder_7d493 yJ0_coder_7d493 ∈ WS ∧ Cond.initialized "java/lang/String" ∈ WS ∧ Cond.code yJ0_coder_7d493 cJ0_coder_7d493 1 (some .byte) ∈ WS := ⟨WS_in (inT_mem (k := 2214) (by decide +kernel)) rfl, WS_in (inT_mem (k := 2215) (by decide +kernel)) rfl, WS_in (inT_mem (k := 2216) (by decide +kernel)) rfl, WS_in (inT_mem (k := 1015) (by decide +kernel)) rfl, WS_in (inC_mem (k := 2217) (by decide +kernel)) rfl⟩
theorem tw_lat : Cond.methodLink RJ0 492 yJ0_isLatin1_aae02 ∈ WS ∧ Cond.instanceMethod yJ0_isLatin1_aae02 ∈ WS ∧ Cond.selects "java/lang/String" yJ0_isLatin1_aae02 yJ0_isLatin1_aae02 ∈ WS ∧ Cond.initialized "java/lang/String" ∈ WS ∧ Cond.code yJ0_isLatin1_aae02 cJ0_isLatin1_aae02 1 (some .boolean) ∈ WS := ⟨WS_in (inT_mem (k := 2224) (by decide +kernel)) rfl, WS_in (inT_mem (k := 2225) (by decide +kernel)) rfl, WS_in (inT_mem (k := 2226) (by decide +kernel)) rfl, WS_in (inT_mem (k := 1015) (by decide +kernel)) rfl, WS_in (inC_mem (k := 2227) (by decide +kernel)) rfl⟩
theorem tw_ch1 : Cond.methodLink RJ0 495 yJ1_charAt_3b067 ∈ WS ∧ Cond.static yJ1_charAt_3b067 ∈ WS ∧ Cond.initialized RJ1 ∈ WS ∧ Cond.code yJ1_charAt_3b067 cJ1_charAt_3b067 2 (some .char) ∈ WS := ⟨WS_in (inT_mem (k := 2228) (by decide +kernel)) rfl, WS_in (inT_mem (k := 2229) (by decide +kernel)) rfl, WS_in (inT_mem (k := 1016) (by decide +kernel)) rfl, WS_in (inC_mem (k := 2230) (by decide +kernel)) rfl⟩
theorem tw_ck0 : Cond.methodLink RJ1 9 yJ0_checkIndex_df160 ∈ WS ∧ Cond.static yJ0_checkIndex_df160 ∈ WS ∧ Cond.initialized RJ0 ∈ WS ∧ Cond.code yJ0_checkIndex_df160 cJ0_checkIndex_df160 2 none ∈ WS := ⟨WS_in (inT_mem (k := 2231) (by decide +kernel)) rfl, WS_in (inT_mem (k := 2232) (by decide +kernel)) rfl, WS_in (inT_mem (k := 1015) (by decide +kernel)) rfl, WS_in (inC_mem (k := 2233) (by decide +kernel)) rfl⟩
theorem tw_ck3 : Cond.methodLink RJ0 1059 yJ3_checkIndex_8e157 ∈ WS ∧ Cond.static yJ3_checkIndex_8e157 ∈ WS ∧ Cond.initialized RJ3 ∈ WS ∧ Cond.code yJ3_checkIndex_8e157 cJ3_checkIndex_8e157 3 (some .int) ∈ WS := ⟨WS_in (inT_mem (k := 2236) (by decide +kernel)) rfl, WS_in (inT_mem (k := 2237) (by decide +kernel)) rfl, WS_in (inT_mem (k := 1017) (by decide +kernel)) rfl, WS_in (inC_mem (k := 2238) (by decide +kernel)) rfl⟩
theorem tx_coder {i sz k : Nat} (hi : i < 12) : Met l yJ0_coder_7d493 (Cond.code yJ0_coder_7d493 cJ0_coder_7d493 1 (some .byte) :: WS) (rmm k) (va_Pc [.ref (α 494 i)] (PreM α cT D adV σ sz)) (QM α cT D (some (.inl 0)) σ sz) 0 0 (AA α sz) := by
  refine tx_ent (by decide +kernel) (Nat.le_refl 1) (fun p e s mi below meth c ls X => ?_)
  have hlocks := X.hlk
  have h0 : ls[0]? = some (.val (.ref (α 494 i))) := X.hl.2.2 (0, .ref (α 494 i)) (by simp [lv_args])
  refine va_gets X.hx X.hb X.hvk.2.1 X.hI.2.2.1 X.hown (X.hts _ tw_comp) (fun _ h => h) (by decide +kernel) ?_
  refine lv_if_eq X.hx X.hb (off := 10) (tgt := 13) (by decide +kernel) rfl (fun h => absurd h (by decide)) (fun _ => ?_)
  refine lv_aload_n X.hx X.hb (k := 0) (by decide +kernel) rfl h0 ?_
  refine vk_getf X.hx X.hb (X.hvk.1.1 i hi).2.1 X.hI.2.2.1 X.hown (X.hts _ tw_cod) (fun _ h => h) (by decide +kernel) ?_
  refine lv_goto X.hx X.hb (off := 4) (tgt := 14) (by decide +kernel) rfl ?_
  exact W.zret (ty := .byte) X.hx X.hb X.hr (by decide +kernel) (fun t ht hW => ⟨rfl, by rw [ht]; exact X.hI.1, X.hI.2.2.1.F ht⟩) X.hI.2.2.1.2.2 (by decide +kernel)
theorem tx_lat {i sz k : Nat} (hi : i < 12) : Met l yJ0_isLatin1_aae02 (Cond.code yJ0_isLatin1_aae02 cJ0_isLatin1_aae02 1 (some .boolean) :: WS) (rmm k) (va_Pc [.ref (α 494 i)] (PreM α cT D adV σ sz)) (QM α cT D (some (.inl 1)) σ sz) 0 0 (AA α sz) := by
  refine tx_ent (by decide +kernel) (Nat.le_refl 1) (fun p e s mi below meth c ls X => ?_)
  have hlocks := X.hlk
  have h0 : ls[0]? = some (.val (.ref (α 494 i))) := X.hl.2.2 (0, .ref (α 494 i)) (by simp [lv_args])
  refine va_gets X.hx X.hb X.hvk.2.1 X.hI.2.2.1 X.hown (X.hts _ tw_comp) (fun _ h => h) (by decide +kernel) ?_
  refine lv_if_eq X.hx X.hb (off := 14) (tgt := 17) (by decide +kernel) rfl (fun h => absurd h (by decide)) (fun _ => ?_)
  refine lv_aload_n X.hx X.hb (k := 0) (by decide +kernel) rfl h0 ?_
  refine vk_getf X.hx X.hb (X.hvk.1.1 i hi).2.1 X.hI.2.2.1 X.hown (X.hts _ tw_cod) (fun _ h => h) (by decide +kernel) ?_
  refine lv_if_ne X.hx X.hb (off := 7) (tgt := 17) (by decide +kernel) rfl (fun h => absurd rfl h) (fun _ => ?_)
  refine lv_iconst X.hx X.hb (n := 1) (v := 1) (by decide +kernel) rfl ?_
  refine lv_goto X.hx X.hb (off := 4) (tgt := 18) (by decide +kernel) rfl ?_
  exact W.zret (ty := .boolean) X.hx X.hb X.hr (by decide +kernel) (fun t ht hW => ⟨rfl, by rw [ht]; exact X.hI.1, X.hI.2.2.1.F ht⟩) X.hI.2.2.1.2.2 (by decide +kernel)
theorem tx_ck3 {sz k : Nat} {j n : Int32} {v : Value} (hv : v = .null ∨ ∃ t, v = .ref t) (h1 : ¬ j < 0) (h2 : j < n) : Met l yJ3_checkIndex_8e157 (Cond.code yJ3_checkIndex_8e157 cJ3_checkIndex_8e157 3 (some .int) :: WS) (rmm k) (va_Pc [.int j, .int n, v] (PreM α cT D adV σ sz)) (QM α cT D (some (.inl j)) σ sz) 0 0 (AA α sz) := by
  have hc : v.category = 1 := by
    rcases hv with rfl | ⟨t, rfl⟩ <;> rfl
  refine tx_ent (by decide +kernel) (by rcases hv with rfl | ⟨t, rfl⟩ <;> exact Nat.le_refl 3) (fun p e s mi below meth c ls X => ?_)
  have hlocks := X.hlk
  have h0 : ls[0]? = some (.val (.int j)) := X.hl.2.2 (0, .int j) (by simp [lv_args])
  have h1' : ls[1]? = some (.val (.int n)) := X.hl.2.2 (1, .int n) (by simp [lv_args, Value.category])
  refine lv_iload_n X.hx X.hb (k := 0) (by decide +kernel) rfl h0 ?_
  refine lv_if_lt X.hx X.hb (off := 8) (tgt := 9) (by decide +kernel) rfl (fun h => absurd h h1) (fun _ => ?_)
  refine lv_iload_n X.hx X.hb (k := 0) (by decide +kernel) rfl h0 ?_
  refine lv_iload_n X.hx X.hb (k := 1) (by decide +kernel) rfl h1' ?_
  refine lv_icmp_lt X.hx X.hb (off := 10) (tgt := 16) (by decide +kernel) rfl (fun _ => ?_) (fun h => absurd h2 h)
  refine lv_iload_n X.hx X.hb (k := 0) (by decide +kernel) rfl h0 ?_
  exact W.iret X.hx X.hb X.hr (fun t ht hW => ⟨rfl, by rw [ht]; exact X.hI.1, X.hI.2.2.1.F ht⟩) X.hI.2.2.1.2.2 (by decide +kernel)
theorem tx_ck0 {sz k : Nat} {j n : Int32} (hk : 1 ≤ k) (h1 : ¬ j < 0) (h2 : j < n) : Met l yJ0_checkIndex_df160 (Cond.code yJ0_checkIndex_df160 cJ0_checkIndex_df160 2 none :: WS) (rmm k) (va_Pc [.int j, .int n] (PreM α cT D adV σ sz)) (QM α cT D none σ sz) 0 0 (AA α sz) := by
  refine tx_ent (by decide +kernel) (Nat.le_refl 2) (fun p e s mi below meth c ls X => ?_)
  have hlocks := X.hlk
  have h0 : ls[0]? = some (.val (.int j)) := X.hl.2.2 (0, .int j) (by simp [lv_args])
  have h1' : ls[1]? = some (.val (.int n)) := X.hl.2.2 (1, .int n) (by simp [lv_args, Value.category])
  refine lv_iload_n X.hx X.hb (k := 0) (by decide +kernel) rfl h0 ?_
  refine lv_iload_n X.hx X.hb (k := 1) (by decide +kernel) rfl h1' ?_
  have go : ∀ v : Value, (v = .null ∨ ∃ t, v = .ref t) → va_Z "jdk/internal/util/Preconditions" "SIOOBE_FORMATTER" "Ljava/util/function/BiFunction;" v (AA α s.heap.size) s s.heap → W p l e (rmm k) s mi [.int j, .int n].toArray below meth c s.heap [] 0 0 (MQ below (QM α cT D none σ s.heap.size) [.int j, .int n].toArray s 0 0 (AA α s.heap.size)) (F0 mi 2 ls [.int n, .int j]) := by
    intro v hv hZ
    refine va_gets X.hx X.hb hZ X.hI.2.2.1 X.hown (X.hts _ tw_fmt) (fun _ h => h) (by decide +kernel) ?_
    refine tx_S X (k' := 0) (As := [.int j, .int n, v]) (rest := []) (by decide +kernel) tw_ck3 ⟨by decide +kernel, by decide +kernel, show _ = some 3 by decide +kernel⟩ (by simp) (by decide) hk X.hI (tx_ck3 hv h1 h2) (fun H1 locs1 hI1 => ?_)
    refine lv_pop X.hx X.hb (va := .int j) (rest := []) (by decide +kernel) rfl ?_
    exact W.vret X.hx X.hb X.hr (fun t ht hW => ⟨rfl, by rw [ht]; exact hI1.1, hI1.2.2.1.F ht⟩) hI1.2.2.1.2.2 (by decide +kernel)
  rcases X.hvk.2.2 with hz | ⟨t, hz⟩
  · exact go _ (Or.inl rfl) hz
  · exact go _ (Or.inr ⟨t, rfl⟩) hz
theorem sl_ok : ∀ i, i < 12 → slen i = slens.getD i 0 ∧ slen i < 1000 ∧ Int32.ofNat (slen i) >>> ((0 : Int32) &&& 31) = Int32.ofNat (slen i) := by decide +kernel
theorem sc_ok : ∀ i, i < 12 → ∀ k, k < slen i → ((sch i k &&& 255).toUInt32 % 65536).toInt32 = sch i k ∧ narrow .char (.int (sch i k)) = .int (sch i k) := by
  have h : (List.range 12).all (fun i => (List.range (slen i)).all (fun k => decide (((sch i k &&& 255).toUInt32 % 65536).toInt32 = sch i k) && decide (narrow .char (.int (sch i k)) = .int (sch i k)))) = true := by decide +kernel
  intro i hi k hk
  have h1 := List.all_eq_true.mp (List.all_eq_true.mp h i (List.mem_range.mpr hi)) k (List.mem_range.mpr hk)
  rw [Bool.and_eq_true] at h1
  exact ⟨of_decide_eq_true h1.1, of_decide_eq_true h1.2⟩
theorem in_lt {j : Int32} {n : Nat} (hn : n < 1000) (h : vp_in j n) : ¬ j < 0 ∧ j < Int32.ofNat n ∧ j.toNatClampNeg < n := by
  have h1 : ¬ j < 0 := fun q => h (Or.inl q)
  have h2 : j.toNatClampNeg < n := Nat.not_le.mp fun q => h (Or.inr q)
  refine ⟨h1, ?_, h2⟩
  rw [Int32.lt_iff_toInt_lt]
  have h3 : (Int32.ofNat n).toInt = (n : Int) := Int32.toInt_ofNat_of_lt (by omega)
  have h4 : j.toInt.toNat = j.toNatClampNeg := rfl
  omega
theorem tx_ch1 {i sz k : Nat} {j : Int32} (hk : 2 ≤ k) (hi : i < 12) (hj : vp_in j (slen i)) : Met l yJ1_charAt_3b067 (Cond.code yJ1_charAt_3b067 cJ1_charAt_3b067 2 (some .char) :: WS) (rmm k) (va_Pc [.ref (adV i), .int j] (PreM α cT D adV σ sz)) (QM α cT D (some (.inl (sch i j.toNatClampNeg))) σ sz) 0 0 (AA α sz) := by
  obtain ⟨n1, n2, -⟩ := sl_ok i hi
  obtain ⟨j1, j2, j3⟩ := in_lt n2 hj
  refine tx_ent (by decide +kernel) (Nat.le_refl 2) (fun p e s mi below meth c ls X => ?_)
  have hlocks := X.hlk
  have h0 : ls[0]? = some (.val (.ref (adV i))) := X.hl.2.2 (0, .ref (adV i)) (by simp [lv_args])
  have h1' : ls[1]? = some (.val (.int j)) := X.hl.2.2 (1, .int j) (by simp [lv_args, Value.category])
  have hT := (X.hvk.1.1 i hi).2.2.2
  refine lv_iload_n X.hx X.hb (k := 1) (by decide +kernel) rfl h1' ?_
  refine lv_aload_n X.hx X.hb (k := 0) (by decide +kernel) rfl h0 ?_
  refine va_tlen X.hx X.hb hT X.hI.2.2.1 (v := Int32.ofNat (slen i)) (by rw [n1]) (by decide +kernel) ?_
  refine tx_S X (k' := 1) (As := [.int j, .int (Int32.ofNat (slen i))]) (rest := []) (by decide +kernel) tw_ck0 ⟨by decide +kernel, by decide +kernel, show _ = some 2 by decide +kernel⟩ (by simp) (by decide) hk X.hI (tx_ck0 (Nat.le_refl 1) j1 j2) (fun H1 locs1 hI1 => ?_)
  refine lv_aload_n X.hx X.hb (k := 0) (by decide +kernel) rfl h0 ?_
  refine lv_iload_n X.hx X.hb (k := 1) (by decide +kernel) rfl h1' ?_
  refine va_tb X.hx X.hb hT hI1.2.2.1 (i := j) (by rw [← n1]; exact hj) (v := .int (sch i j.toNatClampNeg)) rfl (by decide +kernel) ?_
  refine lv_sipush X.hx X.hb (n := 255) (v := 255) (by decide +kernel) rfl ?_
  refine lv_iand X.hx X.hb (by decide +kernel) ?_
  refine lv_i2c X.hx X.hb (by decide +kernel) (sc_ok i hi _ j3).1 ?_
  exact W.zret (ty := .char) X.hx X.hb X.hr (sc_ok i hi _ j3).2 (fun t ht hW => ⟨rfl, by rw [ht]; exact hI1.1, hI1.2.2.1.F ht⟩) hI1.2.2.1.2.2 (by decide +kernel)
theorem tx_all : TX l α cT D adV := by
  refine ⟨fun i σ sz hi => ?_, fun i j σ sz hi hj => ?_⟩
  · obtain ⟨n1, n2, n3⟩ := sl_ok i hi
    refine tx_ent (by decide +kernel) (Nat.le_refl 1) (fun p e s mi below meth c ls X => ?_)
    have hlocks := X.hlk
    have h0 : ls[0]? = some (.val (.ref (α 494 i))) := X.hl.2.2 (0, .ref (α 494 i)) (by simp [lv_args])
    refine lv_aload_n X.hx X.hb (k := 0) (by decide +kernel) rfl h0 ?_
    refine vk_getf X.hx X.hb (X.hvk.1.1 i hi).2.2.1 X.hI.2.2.1 X.hown (X.hts _ tw_val) (fun _ h => h) (by decide +kernel) ?_
    refine va_tlen X.hx X.hb (X.hvk.1.1 i hi).2.2.2 X.hI.2.2.1 (v := Int32.ofNat (slen i)) (by rw [n1]) (by decide +kernel) ?_
    refine lv_aload_n X.hx X.hb (k := 0) (by decide +kernel) rfl h0 ?_
    refine tx_V X (k' := 0) (As := []) (rest := [.int (Int32.ofNat (slen i))]) (by decide +kernel) tw_coder rfl (by decide +kernel) hi (by simp [Value.category]) (by decide) (by decide) X.hI (tx_coder hi) (fun H1 locs1 hI1 => ?_)
    refine lv_ishr X.hx X.hb (y := 0) (by decide +kernel) ?_
    rw [n3]
    exact W.iret X.hx X.hb X.hr (fun t ht hW => ⟨rfl, by rw [ht]; exact hI1.1, hI1.2.2.1.F ht⟩) hI1.2.2.1.2.2 (by decide +kernel)
  · obtain ⟨n1, n2, -⟩ := sl_ok i hi
    obtain ⟨j1, j2, j3⟩ := in_lt n2 hj
    refine tx_ent (by decide +kernel) (Nat.le_refl 2) (fun p e s mi below meth c ls X => ?_)
    have hlocks := X.hlk
    have h0 : ls[0]? = some (.val (.ref (α 494 i))) := X.hl.2.2 (0, .ref (α 494 i)) (by simp [lv_args])
    have h1' : ls[1]? = some (.val (.int j)) := X.hl.2.2 (1, .int j) (by simp [lv_args, Value.category])
    refine lv_aload_n X.hx X.hb (k := 0) (by decide +kernel) rfl h0 ?_
    refine tx_V X (k' := 0) (As := []) (rest := []) (by decide +kernel) tw_lat rfl (by decide +kernel) hi (by simp) (by decide) (by decide) X.hI (tx_lat hi) (fun H1 locs1 hI1 => ?_)
    refine lv_if_eq X.hx X.hb (x := 1) (off := 12) (tgt := 16) (by decide +kernel) rfl (fun h => absurd h (by decide)) (fun _ => ?_)
    refine lv_aload_n X.hx X.hb (k := 0) (by decide +kernel) rfl h0 ?_
    refine vk_getf X.hx X.hb (X.hvk.1.1 i hi).2.2.1 hI1.2.2.1 X.hown (X.hts _ tw_val) (fun _ h => h) (by decide +kernel) ?_
    refine lv_iload_n X.hx X.hb (k := 1) (by decide +kernel) rfl h1' ?_
    refine tx_S X (k' := 2) (As := [.ref (adV i), .int j]) (rest := []) (by decide +kernel) tw_ch1 ⟨by decide +kernel, by decide +kernel, show _ = some 2 by decide +kernel⟩ (by simp) (by decide) (by decide) hI1 (tx_ch1 (Nat.le_refl 2) hi hj) (fun H2 locs2 hI2 => ?_)
    exact W.zret (ty := .char) X.hx X.hb X.hr (sc_ok i hi _ j3).2 (fun t ht hW => ⟨rfl, by rw [ht]; exact hI2.1, hI2.2.2.1.F ht⟩) hI2.2.2.1.2.2 (by decide +kernel)
end TXS
