/-! THE START: classes, arrays, texts, the state of both programs -/
theorem JB_start (xs : Nat → Int32) (Ln : Nat) : JB (σs xs Ln) (R00, fun _ => R00, fun _ => false, (fun _ => 4, fun _ => 0, fun _ _ => 0), (fun _ => 0, 0, 0, -1)) := by
  have hz : ∀ {P : Nat → Prop} (i : Nat), i < 0 → P i := fun i h => absurd h (Nat.not_lt_zero _)
  refine ⟨⟨⟨WF_00, fun j hj => rfl, rfl, fun i h => hz (P := fun _ => _) i h, fun i h => hz (P := fun _ => _) i h, fun i h => hz (P := fun _ => _) i h, fun i h => hz (P := fun _ => _) i h, fun i h => hz (P := fun _ => _) i h, fun i h => hz (P := fun _ => _) i h⟩, fun k hk => ⟨rfl, fun h => by cases h⟩, fun s hs => ⟨Nat.le_refl _, Nat.zero_le _, fun _ => rfl, fun h => absurd rfl h⟩, rfl, Nat.zero_le _, fun i h => hz (P := fun _ => _) i h, rfl, rfl⟩, ?_⟩
  refine ⟨⟨⟨WF_00, rfl, rfl, rfl, rfl, ⟨rfl, fun i h => hz (P := fun _ => _) i h⟩, ⟨rfl, fun i h => hz (P := fun _ => _) i h⟩, ⟨rfl, fun i h => hz (P := fun _ => _) i h⟩, ⟨rfl, fun i h => hz (P := fun _ => _) i h⟩, ⟨rfl, fun i h => hz (P := fun _ => _) i h⟩, fun i h => hz (P := fun _ => _) i h, rfl, fun i h => hz (P := fun _ => _) i h⟩, fun i h => hz (P := fun _ => _) i h, fun z _ i h => hz (P := fun _ => _) i h, fun y => ⟨fun i h => hz (P := fun _ => _) i h, fun i k h => hz (P := fun _ => _) i h⟩⟩, fun k hk => ⟨rfl, fun h => by cases h⟩, fun s hs => ⟨Nat.le_refl _, Nat.zero_le _, fun _ => rfl, fun h => absurd rfl h⟩, rfl, Nat.zero_le _, fun i h => hz (P := fun _ => _) i h, rfl, rfl⟩
theorem arr_of {args : Array Value} {s : State} {ty : FieldType} (h : (Cond.arrayClass ty).before args s = true) : ∃ cA : ClassId, ArrOfT s cA ty ∧ s.vm.findClass ("[" ++ ty.toString) = some cA := by
  obtain ⟨cA, kC, cc, h1, h2, h3⟩ := Cond.arrayClass_spec h
  exact ⟨cA, fun N z => ⟨(fun k h => by cases h), kC, h2, cc, h3⟩, h1⟩
theorem obj_of {args : Array Value} {s : State} {C : String} (h : (Cond.arrayOver (.object C)).before args s = true) : ∃ cA : ClassId, ArrOfT s cA (.object C) ∧ va_RA s cA (.object C) := by
  obtain ⟨comp, cA, k, h1, h2, h3, h4, h5⟩ := Cond.arrayOver_spec h
  exact ⟨cA, fun N z => ⟨(fun k h => by cases h), k, h3, comp, h4⟩, k, comp, h3, h4, h1, h5⟩
theorem over_of {args : Array Value} {s : State} (h : (Cond.arrayOver (.array .int)).before args s = true) : ∃ (comp cA : ClassId) (k : Class), s.vm.findClass ("[" ++ FieldType.int.toString) = some comp ∧ s.vm.classes[cA]? = some k ∧ k.kind = .array comp (.array .int) ∧ s.vm.findClass ("[" ++ (FieldType.array .int).toString) = some cA := by
  unfold Cond.before at h
  simp only [Cond.holds, Cond.value, beq_iff_eq] at h
  cases hc : s.vm.findClass (FieldType.array .int).toString with
  | none => rw [hc] at h; simp at h
  | some comp =>
    rw [hc] at h
    simp only [Option.bind_some, Option.bind_eq_some_iff, Option.map_eq_some_iff] at h
    obtain ⟨cA, hi, k, hk, hb⟩ := h
    obtain ⟨hlt, hp, -⟩ := Array.findIdx?_eq_some_iff_getElem.mp hi
    rw [(Array.getElem?_eq_some_iff.mp hk).2] at hp
    cases hkind : k.kind with
    | array comp' ty' =>
      rw [hkind] at hb hp
      simp at hb hp
      exact ⟨comp, cA, k, hc, hk, by rw [hkind, hp, hb.1], hb.2⟩
    | _ => rw [hkind] at hb; simp at hb
theorem st_cM {args : Array Value} {s : State} (hts : ∀ w ∈ lw_tbl, w.before args s = true) : ∃ cM : Nat → ClassId, (∀ k, k < 7 → ArrOfT s (cM k) (mty k) ∧ va_RA s (cM k) (mty k)) ∧ ∃ k : Class, s.vm.classes[cM 6]? = some k ∧ k.kind = .array (cM 0) (.array .int) := by
  have hov := over_of (hts _ (inT_mem (k := 1223) (w := .arrayOver (.array .int)) (by decide +kernel)))
  have h : ∀ k : Nat, ∃ cA : ClassId, k < 7 → ArrOfT s cA (mty k) ∧ va_RA s cA (mty k) := by
    intro k
    match k with
    | 0 => obtain ⟨cA, h1, h2⟩ := arr_of (hts _ (inT_mem (k := 1062) (w := .arrayClass .int) (by decide +kernel))); exact ⟨cA, fun _ => ⟨h1, h2⟩⟩
    | 1 => obtain ⟨cA, h1, h2⟩ := arr_of (hts _ (inT_mem (k := 2067) (w := .arrayClass .long) (by decide +kernel))); exact ⟨cA, fun _ => ⟨h1, h2⟩⟩
    | 2 => obtain ⟨cA, h1, h2⟩ := arr_of (hts _ (inT_mem (k := 1195) (w := .arrayClass .byte) (by decide +kernel))); exact ⟨cA, fun _ => ⟨h1, h2⟩⟩
    | 3 => obtain ⟨cA, h1, h2⟩ := arr_of (hts _ (inT_mem (k := 1215) (w := .arrayClass .boolean) (by decide +kernel))); exact ⟨cA, fun _ => ⟨h1, h2⟩⟩
    | 4 => obtain ⟨cA, h1⟩ := obj_of (hts _ (inT_mem (k := 1196) (w := .arrayOver (.object RX6)) (by decide +kernel))); exact ⟨cA, fun _ => h1⟩
    | 5 => obtain ⟨cA, h1⟩ := obj_of (hts _ (inT_mem (k := 1198) (w := .arrayOver (.object RX10)) (by decide +kernel))); exact ⟨cA, fun _ => h1⟩
    | 6 =>
      obtain ⟨comp, cA, k, h1, h3, h4, h5⟩ := hov
      exact ⟨cA, fun _ => ⟨fun N z => ⟨(fun k h => by cases h), k, h3, comp, h4⟩, h5⟩⟩
    | k + 7 => exact ⟨default, fun h => absurd h (by omega)⟩
  have hall : ∀ k, k < 7 → ArrOfT s (Classical.choose (h k)) (mty k) ∧ va_RA s (Classical.choose (h k)) (mty k) := fun k hk => Classical.choose_spec (h k) hk
  refine ⟨fun k => Classical.choose (h k), hall, ?_⟩
  obtain ⟨comp, cA, k, h1, h3, h4, h5⟩ := hov
  have e0 : Classical.choose (h 0) = comp := Option.some.inj ((hall 0 (by decide)).2.symm.trans h1)
  have e6 : Classical.choose (h 6) = cA := Option.some.inj ((hall 6 (by decide)).2.symm.trans h5)
  show ∃ k : Class, s.vm.classes[Classical.choose (h 6)]? = some k ∧ k.kind = .array (Classical.choose (h 0)) (.array .int)
  rw [e0, e6]
  exact ⟨k, h3, h4⟩
theorem st_D {args : Array Value} {s : State} (hWS : ∀ w ∈ WS, w.before args s = true) : ∃ D : va_G, ∀ (c : Nat) (q : vw_C), vwCl[c]? = some q → u_Kn s q.1 q.2.1 q.2.2 (D.1 c) (D.2 c) := by
  have h : ∀ c : Nat, ∃ x : ClassId × (Nat → Nat), c < 13 → u_Kn s (Tc c).1 (Tc c).2.1 (Tc c).2.2 x.1 x.2 := by
    intro c
    by_cases hc : c < 13
    · obtain ⟨cC, iS, hk⟩ := u_known (C := (Tc c).1) (T := (Tc c).2.1) (N := (Tc c).2.2) (n := (Tc c).2.2) hWS (uw_in hc) (hWS _ (kd_of hc).2.2.2.1)
      exact ⟨(cC, iS), fun _ => hk⟩
    · exact ⟨(default, fun _ => 0), fun q => absurd q hc⟩
  refine ⟨(fun c => (Classical.choose (h c)).1, fun c => (Classical.choose (h c)).2), fun c q hq => ?_⟩
  have hc : c < 13 := (List.getElem?_eq_some_iff.mp hq).1
  have hq' := hq
  rw [Tc_at hc] at hq'
  cases hq'
  exact Classical.choose_spec (h c) hc
theorem okcn_all : kcl.all (fun e => !(Nat.beq e.2.2.2.1 1) || inT e.2.2.2.2 (.methodLinkNest (cnm e.1) e.2.1 (kyn e.2.2.1) RX11)) = true := by decide +kernel
theorem st_KW {args : Array Value} {s : State} {cM : Nat → ClassId} {D : va_G} (hts : ∀ w ∈ lw_tbl, w.before args s = true) (hcM : ∀ k, k < 7 → ArrOfT s (cM k) (mty k) ∧ va_RA s (cM k) (mty k)) (hk6 : ∃ k : Class, s.vm.classes[cM 6]? = some k ∧ k.kind = .array (cM 0) (.array .int)) (hD : ∀ (c : Nat) (q : vw_C), vwCl[c]? = some q → u_Kn s q.1 q.2.1 q.2.2 (D.1 c) (D.2 c)) : KW cM D s := by
  refine ⟨⟨hD, fun k q hq => ?_⟩, fun e he h1 => ?_, va_AO.of (hts _ (inT_mem (k := 1196) (by decide +kernel))), va_AO.of (hts _ (inT_mem (k := 1198) (by decide +kernel))), hk6⟩
  · have hk : k < 7 := by
      have := (List.getElem?_eq_some_iff.mp hq).1
      simpa [mtys] using this
    rw [mtys_at hk] at hq
    cases hq
    exact hcM k hk
  · have ho := List.all_eq_true.mp okcn_all e he
    rw [Bool.or_eq_true, h1] at ho
    rcases ho with ho | ho
    · cases ho
    · exact va_Nw.of rfl (hts _ (inT_mem ho))
/-- the texts -/
def stp : List Nat := [3085, 3074, 3090, 3032, 3080, 3060, 3033, 3034, 2201, 3075, 3065, 3022]
theorem okst_all : (List.range 12).all (fun k => inT (stp.getD k 0) (.stringRef RX5 (sks.getD k 0) (stx.getD k ""))) = true := by decide +kernel
abbrev stm (i : Nat) : Term := .string RX5 (sks.getD i 0)
def inF (w : Cond) : Bool := (flatC (.and given_1 narrow_1)).any (fun x => decide (x = w))
theorem inF_mem {w : Cond} (h : inF w = true) : w ∈ flatC (.and given_1 narrow_1) := by
  obtain ⟨x, hx, hd⟩ := List.any_eq_true.mp h
  rw [← of_decide_eq_true hd]
  exact hx
theorem okF_1 : (List.range 12).all (fun i => inF (.exactly (stm i) "java/lang/String") && inF (.eq (.field (stm i) "java/lang/String" "coder" "B") (.int 0)) && inF (.arrayOf (.field (stm i) "java/lang/String" "value" "[B") .byte) && inF (.eq (.length (.field (stm i) "java/lang/String" "value" "[B")) (.int (Int32.ofNat (slens.getD i 0))))) = true := by decide +kernel
theorem okF_2 : (List.range 12).all (fun i => (List.range (slens.getD i 0)).all (fun j => inF (.eq (.elem (.field (stm i) "java/lang/String" "value" "[B") (.int (Int32.ofNat j))) (.int ((sws.getD i []).getD j 0))))) = true := by decide +kernel
theorem okF_3 : (List.range 12).all (fun i => (List.range 12).all (fun j => Nat.beq i j || inF (.not (.eq (stm i) (stm j))) || inF (.not (.eq (stm j) (stm i))))) = true := by decide +kernel
theorem okF_4 : inF (.eq (.static "java/lang/String" "COMPACT_STRINGS" "Z") (.int 1)) = true ∧ inF (.isRef (.static "jdk/internal/util/Preconditions" "SIOOBE_FORMATTER" "Ljava/util/function/BiFunction;")) = true := ⟨by decide +kernel, by decide +kernel⟩
theorem st_txt {args : Array Value} {s : State} (hts : ∀ w ∈ lw_tbl, w.before args s = true) (hF : ∀ c ∈ flatC (.and given_1 narrow_1), c.before args s = true) : ∃ adK adV : Nat → Nat, (vk_S 12 slens sws adK adV (fun q => s.heap.size ≤ q) s s.heap ∧ va_Z "java/lang/String" "COMPACT_STRINGS" "Z" (.int 1) (fun q => s.heap.size ≤ q) s s.heap ∧ va_Zq "jdk/internal/util/Preconditions" "SIOOBE_FORMATTER" "Ljava/util/function/BiFunction;" (fun q => s.heap.size ≤ q) s s.heap) ∧ ∀ k, k < 12 → vk_R RX5 (sks.getD k 0) (stx.getD k "") (adK k) s := by
  have hA : ∀ a : Nat, a < s.heap.size → ¬ (fun q => s.heap.size ≤ q) a := fun a h q => absurd h (Nat.not_lt.mpr q)
  have hF' : ∀ w, inF w = true → w.before args s = true := fun w h => hF w (inF_mem h)
  have f1 := fun i (hi : i < 12) => List.all_eq_true.mp okF_1 i (List.mem_range.mpr hi)
  simp only [Bool.and_eq_true] at f1
  obtain ⟨adK, adV, hS, hev⟩ := vk_Sof (args := args) (s := s) (N := 12) (tm := stm) (len := slens) (byt := sws) (A := fun q => s.heap.size ≤ q) (by decide +kernel) (fun i hi => hF' _ (f1 i hi).1.1.1) (fun i hi => hF' _ (f1 i hi).1.1.2) (fun i hi => hF' _ (f1 i hi).1.2) (fun i hi => hF' _ (f1 i hi).2)
    (fun i hi j hj => hF' _ (List.all_eq_true.mp (List.all_eq_true.mp okF_2 i (List.mem_range.mpr hi)) j (List.mem_range.mpr hj)))
    (fun i j hi hj hne => by
      have h := List.all_eq_true.mp (List.all_eq_true.mp okF_3 i (List.mem_range.mpr hi)) j (List.mem_range.mpr hj)
      rw [Bool.or_eq_true, Bool.or_eq_true] at h
      rcases h with (h | h) | h
      · exact absurd (Nat.eq_of_beq_eq_true h) hne
      · exact Or.inl (hF' _ h)
      · exact Or.inr (hF' _ h)) hA
  refine ⟨adK, adV, ⟨hS, va_Zof (hts _ (inT_mem (k := 2219) (by decide +kernel))) (hts _ (inT_mem (k := 1015) (by decide +kernel))) (va_eqi (hF' _ okF_4.1)) hA, va_Zqof (hts _ (inT_mem (k := 2235) (by decide +kernel))) (hts _ (inT_mem (k := 1017) (by decide +kernel))) (hF' _ okF_4.2) hA⟩, fun k hk => ?_⟩
  exact vk_R.of (hts _ (inT_mem (List.all_eq_true.mp okst_all k (List.mem_range.mpr hk)))) (hev k hk)
