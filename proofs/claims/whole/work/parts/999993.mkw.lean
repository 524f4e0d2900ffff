/-! THE MAKING: its world in the heap -/
def α0 (b0 : Nat) : Nat → Nat → Nat := fun k _ => b0 + k
def kfv (b0 : Nat) (v : FV) : Value := match v with
  | none => .null
  | some v => conc (α0 b0) v
def mgI : List (Nat × Int32) → Nat → Int32
  | [] => fun _ => 0
  | e :: r => upd (mgI r) e.1 e.2
def mgR (b0 : Nat) : List (Nat × Nat) → Nat → Option Nat
  | [] => fun _ => none
  | e :: r => va_up (mgR b0 r) e.1 (some (b0 + e.2))
def mbd (n k : Nat) (us : List (Nat × Int32)) : vp_A := match k with
  | 1 => (n, .inr (.inl (fun _ => 0)))
  | _ => (n, .inl (mgI us))
def mre (b0 : Nat) (cM : Nat → ClassId) (c : MC) : va_E := match c with
  | .inl o => .inr (o.1, o.2.map (kfv b0))
  | .inr (.inl a) => .inl (cM a.1, mbd a.2.1 a.1 a.2.2)
  | .inr (.inr a) => .inl (cM a.1, a.2.1, .inr (.inr (.inr (.inr (mgR b0 a.2.2)))))
def mr (b0 : Nat) (cM : Nat → ClassId) (w : MW) : va_W := w.mapIdx (fun k c => (b0 + k, mre b0 cM c))
theorem mr_get (b0 : Nat) (cM : Nat → ClassId) (w : MW) (k : Nat) : (mr b0 cM w)[k]? = (w[k]?).map (fun c => (b0 + k, mre b0 cM c)) := by
  unfold mr
  rw [List.getElem?_mapIdx]
theorem mr_at {b0 : Nat} {cM : Nat → ClassId} {w : MW} {k : Nat} {c : MC} (h : w[k]? = some c) : (mr b0 cM w)[k]? = some (b0 + k, mre b0 cM c) := by
  rw [mr_get, h]
  rfl
theorem mr_set {b0 : Nat} {cM : Nat → ClassId} {w : MW} {k : Nat} {c c0 : MC} (h : w[k]? = some c0) : (mr b0 cM w).set k (b0 + k, mre b0 cM c) = mr b0 cM (w.set k c) := by
  have hk := (List.getElem?_eq_some_iff.mp h).1
  apply List.ext_getElem?
  intro j
  rw [mr_get]
  by_cases hj : k = j
  · subst hj
    rw [List.getElem?_set_self (by unfold mr; rw [List.length_mapIdx]; exact hk), List.getElem?_set_self hk]
    rfl
  · rw [List.getElem?_set_ne hj, List.getElem?_set_ne hj, mr_get]
theorem mr_D {b0 : Nat} {cM : Nat → ClassId} {w : MW} : va_D (fun q => b0 ≤ q) (mr b0 cM w) := by
  have key : ∀ (k : Nat) (q : Nat × va_E), (mr b0 cM w)[k]? = some q → q.1 = b0 + k := by
    intro k q hq
    rw [mr_get] at hq
    cases hw : w[k]? with
    | none => rw [hw] at hq; cases hq
    | some c => rw [hw] at hq; cases hq; rfl
  refine ⟨fun i j p q hp hq he => ?_, fun k q hq => ?_⟩
  · have h1 := key i p hp
    have h2 := key j q hq
    omega
  · have := key k q hq
    show b0 ≤ q.1
    omega
theorem mr_grow {b0 : Nat} {cM : Nat → ClassId} {D : va_G} {w w2 : MW} {H H1 : Heap} (hP : va_P D vwCl (mr b0 cM w) H) (ho : ∀ q : Nat, q < H.size → H1[q]? = H[q]?) (hn : ∀ j c, w2[j]? = some c → va_at D vwCl (b0 + (w.length + j), mre b0 cM c) H1) : va_P D vwCl (mr b0 cM (w ++ w2)) H1 := by
  intro k q hq
  rw [mr_get] at hq
  by_cases hk : k < w.length
  · rw [List.getElem?_append_left hk] at hq
    have h1 : (mr b0 cM w)[k]? = some q := by rw [mr_get]; exact hq
    exact (hP k q h1).kept (ho _ (hP k q h1).lt)
  · rw [List.getElem?_append_right (by omega)] at hq
    cases hw : w2[k - w.length]? with
    | none => rw [hw] at hq; cases hq
    | some c =>
      rw [hw] at hq
      cases hq
      have := hn _ c hw
      rwa [show w.length + (k - w.length) = k by omega] at this
def mtys (cM : Nat → ClassId) : List (ClassId × FieldType) := (List.range 7).map (fun k => (cM k, mty k))
theorem mtys_at {cM : Nat → ClassId} {k : Nat} (h : k < 7) : (mtys cM)[k]? = some (cM k, mty k) := by
  unfold mtys
  rw [List.getElem?_map, List.getElem?_range h]
  rfl
/-- what the tables say -/
def KW (cM : Nat → ClassId) (D : va_G) (U : State) : Prop := va_K D vwCl (mtys cM) U ∧ (∀ e ∈ kcl, e.2.2.2.1 = 1 → va_Nw (.methodLinkNest (cnm e.1) e.2.1 (kyn e.2.2.1) RX11) U) ∧ va_AO RX6 U ∧ va_AO RX10 U ∧ ∃ k : Class, U.vm.classes[cM 6]? = some k ∧ k.kind = .array (cM 0) (.array .int)
theorem KW.like {cM : Nat → ClassId} {D : va_G} {s U : State} (hal : s.vm.Alike U.vm) (h : ∃ k : Class, s.vm.classes[cM 6]? = some k ∧ k.kind = .array (cM 0) (.array .int)) : ∃ k : Class, U.vm.classes[cM 6]? = some k ∧ k.kind = .array (cM 0) (.array .int) := by
  obtain ⟨k, h1, h2⟩ := h
  obtain ⟨k', h3, h4⟩ := hal.2.2 _ _ h1
  exact ⟨k', h3, by rw [h4]; exact h2⟩
theorem KW.moved {cM : Nat → ClassId} {D : va_G} {s U : State} (hW : s.WarmedH U.vm) (h : KW cM D s) : KW cM D U := ⟨va_K.moved hW.alike h.1, fun e he h1 => va_Nw.warmM hW (h.2.1 e he h1), va_AO.moved hW.alike h.2.2.1, va_AO.moved hW.alike h.2.2.2.1, KW.like (D := D) hW.alike h.2.2.2.2⟩
theorem KW.same {cM : Nat → ClassId} {D : va_G} {s U : State} (hv : U.vm = s.vm) (h : KW cM D s) : KW cM D U := by
  have hal : s.vm.Alike U.vm := by rw [hv]; exact Vm.Alike.refl s.vm
  exact ⟨va_K.moved hal h.1, fun e he h1 => va_Nw.same rfl hv.symm (h.2.1 e he h1), va_AO.moved hal h.2.2.1, va_AO.moved hal h.2.2.2.1, KW.like (D := D) hal h.2.2.2.2⟩
def rmk (d mc ms : Nat) : Room := { frames := d, cells := mc, slots := ms, locals := 64 * d }
def kwsm (ci : Nat) : List Cond := Cond.code (kyn ci) (kbt ci) (kml ci) none :: WS
def PreK (b0 : Nat) (cM : Nat → ClassId) (D : va_G) (w : MW) (U : State) : Prop := U.heap.size = b0 + w.length ∧ va_P D vwCl (mr b0 cM w) U.heap ∧ KW cM D U
def QK (b0 : Nat) (cM : Nat → ClassId) (D : va_G) (w' : MW) : Array Value → State → Outcome → State → Prop := fun _ st o t =>
  o = .returned none ∧ t.heap.size = b0 + w'.length ∧ va_P D vwCl (mr b0 cM w') t.heap ∧ va_F (fun q => b0 ≤ q) st t
theorem blind_K {b0 : Nat} {cM : Nat → ClassId} {D : va_G} {w : MW} {a : List Value} : FrameBlind (va_Pc a (PreK b0 cM D w)) := by
  intro a' U g mk h
  obtain ⟨h0, h1, h2, h3⟩ := h
  exact ⟨h0, h1, h2, h3.same rfl⟩
def CSk (l : Launch) (b0 : Nat) (cM : Nat → ClassId) (D : va_G) (d : Nat) (C : Nat → List AV → MW → Option MW) : Prop :=
  ∀ ci a w w', C ci a w = some w' → ci < 13 → Met l (kyn ci) (kwsm ci) (rmk d (klm ci a).1 (klm ci a).2) (va_Pc (a.map (conc (α0 b0))) (PreK b0 cM D w)) (QK b0 cM D w') (klm ci a).1 (klm ci a).2 (fun q => b0 ≤ q)
def KI (b0 : Nat) (cM : Nat → ClassId) (D : va_G) (s : State) (w : MW) (H : Heap) (locs : List Loc) : Prop := H.size = b0 + w.length ∧ va_P D vwCl (mr b0 cM w) H ∧ va_S (fun q => b0 ≤ q) s.heap H locs
def KX (p : Program) (s : State) (mi : MethodId) (args : Array Value) (meth : Method) (c : Code) (b0 : Nat) (cM : Nat → ClassId) (D : va_G) (ci : Nat) : Prop :=
  p.tables.exec = Jvm.exec ∧ c.code = kbt ci ∧ c.maxLocals = kml ci ∧ s.vm.findClass (cnm ci) = some mi.cls ∧ (∀ w ∈ WS, w.before args s = true) ∧ KW cM D s ∧ meth.name = "<init>" ∧ b0 ≤ s.heap.size ∧ ci < 13 ∧ meth.sig.returnType = none ∧ meth.locks = false
def KSm (p : Program) (l : Launch) (e : Env) (R : Room) (s : State) (mi : MethodId) (args : Array Value) (below : List Frame) (meth : Method) (c : Code) (Q : State → Prop) (b0 : Nat) (cM : Nat → ClassId) (D : va_G) (l0 nL : Nat) (K : MK) (z : MW) : Prop :=
  ∀ pc L S w n, K pc L S w n = some z → L.length = nL → ∀ H locs ls cells, l0 + cells = w.length → KI b0 cM D s w H locs → lv_has ls nL (lvl (α0 b0) 0 L) → W p l e R s mi args below meth c H locs cells n Q (F0 mi pc ls (S.map (conc (α0 b0))))
/-- the words -/
noncomputable def okk (ci : Nat) : Bool :=
  let e := kmd.getD ci (0, 0, 0, 0, 0, 0)
  inC e.2.2.1 (kyn ci) (kbt ci) (kml ci) none && inT e.2.2.2.1 (.initialized (kyn ci).cls) && inT e.2.2.2.2.1 (.instanceMethod (kyn ci)) && inT e.2.2.2.2.2 (.instantiable (Tc ci).1 (Tc ci).2.2) && decide ((kyn ci).cls = cnm ci ∧ (Tc ci).1 = cnm ci ∧ plainName (kyn ci).cls = true ∧ (kyn ci).name = "<init>" ∧ ((kyn ci).cls ≠ "java/lang/invoke/MethodHandle" ∧ (kyn ci).cls ≠ "java/lang/invoke/VarHandle" ∧ (parseMethodDescriptor (kyn ci).desc).map (fun d => d.parameters.length) = some (knp ci)) ∧ kml ci ≤ 10)
theorem okk_all : (List.range 13).all okk = true := by decide +kernel
theorem kd_of {ci : Nat} (h : ci < 13) : Cond.code (kyn ci) (kbt ci) (kml ci) none ∈ WS ∧ Cond.initialized (kyn ci).cls ∈ WS ∧ Cond.instanceMethod (kyn ci) ∈ WS ∧ Cond.instantiable (Tc ci).1 (Tc ci).2.2 ∈ WS ∧ ((kyn ci).cls = cnm ci ∧ (Tc ci).1 = cnm ci ∧ plainName (kyn ci).cls = true ∧ (kyn ci).name = "<init>" ∧ ((kyn ci).cls ≠ "java/lang/invoke/MethodHandle" ∧ (kyn ci).cls ≠ "java/lang/invoke/VarHandle" ∧ (parseMethodDescriptor (kyn ci).desc).map (fun d => d.parameters.length) = some (knp ci)) ∧ kml ci ≤ 10) := by
  have ho := List.all_eq_true.mp okk_all ci (List.mem_range.mpr h)
  unfold okk at ho
  simp only [Bool.and_eq_true] at ho
  exact ⟨WS_in (inC_mem ho.1.1.1.1) rfl, WS_in (inT_mem ho.1.1.1.2) rfl, WS_in (inT_mem ho.1.1.2) rfl, WS_in (inT_mem ho.1.2) rfl, of_decide_eq_true ho.2⟩
noncomputable def oknw (e : Nat × Nat × Nat × Nat) : Bool := inT e.2.2.2 (.classLink (cnm e.1) e.2.1 (Tc e.2.2.1).1)
theorem oknw_all : knw.all oknw = true := by decide +kernel
noncomputable def okaw (e : Nat × Nat × Nat × Nat × Nat) : Bool := (Nat.beq e.2.2.1 4 && inT e.2.2.2.1 (.classLink (cnm e.1) e.2.1 RX6)) || (Nat.beq e.2.2.1 5 && inT e.2.2.2.1 (.classLink (cnm e.1) e.2.1 RX10))
theorem okaw_all : kaw.all okaw = true := by decide +kernel
noncomputable def okmm (e : Nat × Nat × Nat) : Bool := inT e.2.2 (.classLink (cnm e.1) e.2.1 ("[" ++ (FieldType.array .int).toString))
theorem okmm_all : kmm.all okmm = true := by decide +kernel
noncomputable def okob (e : Nat × Nat × Nat) : Bool := inT e.2.2 (.methodLink (cnm e.1) e.2.1 Lib.objectInit)
theorem okob_all : kob.all okob = true := by decide +kernel
noncomputable def okcl (e : Nat × Nat × Nat × Nat × Nat) : Bool := Nat.beq e.2.2.2.1 1 || inT e.2.2.2.2 (.methodLink (cnm e.1) e.2.1 (kyn e.2.2.1))
theorem okcl_all : kcl.all okcl = true := by decide +kernel
noncomputable def okkf (e : Nat × Nat × Nat × Nat) : Bool := inT e.2.2.2 (.fieldLink (cnm e.1) e.2.1 (((Tc e.1).2.1 e.2.2.1).1) (((Tc e.1).2.1 e.2.2.1).2.1) (((Tc e.1).2.1 e.2.2.1).2.2.1)) && decide (e.2.2.1 < (Tc e.1).2.2 ∧ ((Tc e.1).2.1 e.2.2.1).1 = cnm e.1)
theorem okkf_all : kfl.all okkf = true := by decide +kernel
theorem ow_init : Cond.instanceMethod Lib.objectInit ∈ WS ∧ Cond.code Lib.objectInit ⟨#[0xb1]⟩ 1 none ∈ WS := ⟨WS_in (inT_mem (k := 1027) (by decide +kernel)) rfl, WS_in (inC_mem (k := 1028) (by decide +kernel)) rfl⟩
theorem ow_max : Cond.methodLink (cnm 4) 13 Lib.Math.max.name ∈ WS := WS_in (inT_mem (k := 1041) (by decide +kernel)) rfl
theorem ow_arr : Cond.arrayClass .int ∈ WS ∧ Cond.arrayClass .long ∈ WS ∧ Cond.arrayClass .byte ∈ WS ∧ Cond.arrayClass .boolean ∈ WS := ⟨WS_in (inT_mem (k := 1062) (by decide +kernel)) rfl, WS_in (inT_mem (k := 2067) (by decide +kernel)) rfl, WS_in (inT_mem (k := 1195) (by decide +kernel)) rfl, WS_in (inT_mem (k := 1215) (by decide +kernel)) rfl⟩
theorem ow_ldc : Cond.constant (cnm 12) 80 46656 ∈ WS := WS_in (inT_mem (k := 6151) (by decide +kernel)) rfl
/-- a site found in a table -/
theorem find_at {A : Type} {tbl : List (Nat × Nat × A)} {ci i : Nat} {e : Nat × Nat × A} (h : tbl.find? (fun e => Nat.beq e.1 ci && Nat.beq e.2.1 i) = some e) : e ∈ tbl ∧ e.1 = ci ∧ e.2.1 = i := by
  have h1 := List.mem_of_find?_eq_some h
  have h2 := List.find?_some h
  simp only [Bool.and_eq_true] at h2
  exact ⟨h1, Nat.eq_of_beq_eq_true h2.1, Nat.eq_of_beq_eq_true h2.2⟩
theorem kbl_ok : ∀ ci, ci < 13 → ∃ ty : Nat → FieldType, (∀ k, k < (Tc ci).2.2 → parseFieldDescriptor ((Tc ci).2.1 k).2.2.1 = some (ty k)) ∧ ∀ b0 j, j < (Tc ci).2.2 → defaultValue (ty j) = vp_V ((kbl ci).map (kfv b0)) j := by
  have hall : (List.range 13).all (fun ci => (List.range (Tc ci).2.2).all (fun k => decide ((parseFieldDescriptor ((Tc ci).2.1 k).2.2.1).map defaultValue = some (match (fkd ci k).1 with
    | 1 => .long 0
    | 2 => .null
    | _ => .int 0)))) = true := by decide +kernel
  intro ci hci
  obtain ⟨ty0, hty, -⟩ := Tc_ty hci
  refine ⟨ty0, hty, fun b0 j hj => ?_⟩
  have h1 := of_decide_eq_true (List.all_eq_true.mp (List.all_eq_true.mp hall ci (List.mem_range.mpr hci)) j (List.mem_range.mpr hj))
  rw [hty j hj] at h1
  have h1 := Option.some.inj h1
  rw [h1]
  unfold vp_V kbl
  rw [List.getD_eq_getElem?_getD, List.getElem?_map, List.getElem?_map, List.getElem?_range hj]
  show _ = kfv b0 (match (fkd ci j).1 with
    | 1 => some (.inr (.inl 0))
    | 2 => none
    | _ => some (.inl 0))
  split <;> rfl
theorem ref_ok {ty : FieldType} (h : ty.isReference = true) (a : Nat) : narrow ty (.ref a) = .ref a ∧ fits ty (.ref a) = true := by
  cases ty <;> first | exact ⟨rfl, rfl⟩ | (simp [FieldType.isReference] at h)
