/-! THE WORLD: a store as cells of the heap -/
def conc (α : Nat → Nat → Nat) (v : AV) : Value := match v with
  | .inl x => .int x
  | .inr (.inl x) => .long x
  | .inr (.inr q) => .ref (α q.1 q.2)
def fv (α : Nat → Nat → Nat) (σ : St) (t i k : Nat) (e : Nat × Nat × Nat × Nat) : Value := match e.1 with
  | 1 => .long (gL σ t i k)
  | 2 => .ref (α e.2.1 (lfi e.2.2.1 e.2.2.2 i))
  | _ => .int (gI σ t i k)
def fvs (α : Nat → Nat → Nat) (σ : St) (t i : Nat) : List Value := (List.range (fds.getD (t / 8) []).length).map (fun k => fv α σ t i k (fkd (t / 8) k))
def ce (α : Nat → Nat → Nat) (cT : Nat → ClassId) (σ : St) (t i : Nat) : va_E := match lk t with
  | 0 => .inr (t / 8, fvs α σ t i)
  | 2 => .inl (cT t, ln t i, .inr (.inl (gL σ t i)))
  | 5 => .inl (cT t, ln t i, .inr (.inr (.inr (.inr (fun j => some (α (la t i j).1 (la t i j).2))))))
  | _ => .inl (cT t, ln t i, .inl (gI σ t i))
def wl (α : Nat → Nat → Nat) (cT : Nat → ClassId) (σ : St) : va_W := dom.map (fun q => (α q.1 q.2, ce α cT σ q.1 q.2))
def nodupB : List (Nat × Nat) → Bool
  | [] => true
  | a :: l => l.all (fun b => !(Nat.beq a.1 b.1 && Nat.beq a.2 b.2)) && nodupB l
theorem dom_nodup : nodupB dom = true := by decide +kernel
theorem nodupB_inj : ∀ (l : List (Nat × Nat)), nodupB l = true → ∀ (i j : Nat) (q : Nat × Nat), l[i]? = some q → l[j]? = some q → i = j
  | [], _, i, j, q, h, _ => by simp at h
  | a :: l, hn, i, j, q, h1, h2 => by
    have hn : (l.all (fun b => !(Nat.beq a.1 b.1 && Nat.beq a.2 b.2)) && nodupB l) = true := hn
    rw [Bool.and_eq_true] at hn
    have hno : ∀ q', q' ∈ l → q' = a → False := by
      intro q' hq e
      have := List.all_eq_true.mp hn.1 q' hq
      subst e
      simp at this
    cases i with
    | zero =>
      cases j with
      | zero => rfl
      | succ j =>
        rw [List.getElem?_cons_zero] at h1
        rw [List.getElem?_cons_succ] at h2
        cases h1
        exact (hno _ (List.mem_of_getElem? h2) rfl).elim
    | succ i =>
      rw [List.getElem?_cons_succ] at h1
      cases j with
      | zero =>
        rw [List.getElem?_cons_zero] at h2
        cases h2
        exact (hno _ (List.mem_of_getElem? h1) rfl).elim
      | succ j =>
        rw [List.getElem?_cons_succ] at h2
        rw [nodupB_inj l hn.2 i j q h1 h2]
theorem wl_at {α : Nat → Nat → Nat} {cT : Nat → ClassId} {σ : St} {q0 : Nat} {t i : Nat} (h : dom[q0]? = some (t, i)) : (wl α cT σ)[q0]? = some (α t i, ce α cT σ t i) := by
  unfold wl
  rw [List.getElem?_map, h]
  rfl
theorem wl_set {α : Nat → Nat → Nat} {cT : Nat → ClassId} {σ σ' : St} {q0 t i : Nat} (h : dom[q0]? = some (t, i)) {e : va_E} (he : e = ce α cT σ' t i) (ho : ∀ t' i', ¬ (t' = t ∧ i' = i) → ce α cT σ' t' i' = ce α cT σ t' i') : (wl α cT σ).set q0 (α t i, e) = wl α cT σ' := by
  subst he
  apply List.ext_getElem?
  intro j
  by_cases hj : j = q0
  · subst hj
    have hl : j < (wl α cT σ).length := by
      unfold wl
      rw [List.length_map]
      exact (List.getElem?_eq_some_iff.mp h).1
    rw [List.getElem?_set_self hl, wl_at h]
  · rw [List.getElem?_set_ne (Ne.symm hj)]
    unfold wl
    rw [List.getElem?_map, List.getElem?_map]
    cases hd : dom[j]? with
    | none => rfl
    | some q =>
      obtain ⟨t', i'⟩ := q
      show some (α t' i', ce α cT σ t' i') = some (α t' i', ce α cT σ' t' i')
      rw [ho t' i' (fun z => hj (nodupB_inj dom dom_nodup j q0 (t, i) (by rw [hd, z.1, z.2]) h))]
theorem ce_same {α : Nat → Nat → Nat} {cT : Nat → ClassId} {σ σ' : St} {t i : Nat} (h1 : ∀ j, gI σ' t i j = gI σ t i j) (h2 : ∀ j, gL σ' t i j = gL σ t i j) : ce α cT σ' t i = ce α cT σ t i := by
  have e1 : gI σ' t i = gI σ t i := funext h1
  have e2 : gL σ' t i = gL σ t i := funext h2
  unfold ce fvs fv
  rw [e1, e2]
theorem gI_sI (σ : St) (t i j : Nat) (v : Int32) (t' i' j' : Nat) : gI (sI σ t i j v) t' i' j' = if t' = t ∧ i' = i ∧ j' = j then v else gI σ t' i' j' := rfl
theorem gL_sI (σ : St) (t i j : Nat) (v : Int32) (t' i' j' : Nat) : gL (sI σ t i j v) t' i' j' = gL σ t' i' j' := rfl
theorem gL_sL (σ : St) (t i j : Nat) (v : Int64) (t' i' j' : Nat) : gL (sL σ t i j v) t' i' j' = if t' = t ∧ i' = i ∧ j' = j then v else gL σ t' i' j' := rfl
theorem gI_sL (σ : St) (t i j : Nat) (v : Int64) (t' i' j' : Nat) : gI (sL σ t i j v) t' i' j' = gI σ t' i' j' := rfl
theorem ce_sI {α : Nat → Nat → Nat} {cT : Nat → ClassId} {σ : St} {t i j : Nat} {v : Int32} : ∀ t' i', ¬ (t' = t ∧ i' = i) → ce α cT (sI σ t i j v) t' i' = ce α cT σ t' i' := fun t' i' h => ce_same (fun j' => by rw [gI_sI, if_neg (fun z => h ⟨z.1, z.2.1⟩)]) (fun _ => rfl)
theorem ce_sL {α : Nat → Nat → Nat} {cT : Nat → ClassId} {σ : St} {t i j : Nat} {v : Int64} : ∀ t' i', ¬ (t' = t ∧ i' = i) → ce α cT (sL σ t i j v) t' i' = ce α cT σ t' i' := fun t' i' h => ce_same (fun _ => rfl) (fun j' => by rw [gL_sL, if_neg (fun z => h ⟨z.1, z.2.1⟩)])
theorem upd_sI (σ : St) (t i k : Nat) (v : Int32) : upd (gI σ t i) k v = gI (sI σ t i k v) t i := by
  funext j
  rw [gI_sI]
  unfold upd
  by_cases h : j = k
  · rw [if_pos h, if_pos ⟨rfl, rfl, h⟩]
  · rw [if_neg h, if_neg (fun z => h z.2.2)]
theorem upd_sL (σ : St) (t i k : Nat) (v : Int64) : vp_updL (gL σ t i) k v = gL (sL σ t i k v) t i := by
  funext j
  rw [gL_sL]
  unfold vp_updL
  by_cases h : j = k
  · rw [if_pos h, if_pos ⟨rfl, rfl, h⟩]
  · rw [if_neg h, if_neg (fun z => h z.2.2)]
theorem fvs_len (α : Nat → Nat → Nat) (σ : St) (t i : Nat) : (fvs α σ t i).length = (fds.getD (t / 8) []).length := by simp [fvs]
theorem fvs_at {α : Nat → Nat → Nat} {σ : St} {t i k : Nat} (hk : k < (fds.getD (t / 8) []).length) : (fvs α σ t i)[k]? = some (fv α σ t i k (fkd (t / 8) k)) := by
  unfold fvs
  rw [List.getElem?_map, List.getElem?_range hk]
  rfl
theorem fvs_setI {α : Nat → Nat → Nat} {σ : St} {t i k : Nat} {x : Int32} (hk : (fkd (t / 8) k).1 ≠ 1 ∧ (fkd (t / 8) k).1 ≠ 2) : (fvs α σ t i).set k (.int x) = fvs α (sI σ t i k x) t i := by
  apply List.ext_getElem?
  intro j
  by_cases hl : j < (fds.getD (t / 8) []).length
  · by_cases hj : j = k
    · subst hj
      rw [List.getElem?_set_self (by rw [fvs_len]; exact hl), fvs_at hl]
      unfold fv
      split
      · next h => exact absurd h hk.1
      · next h => exact absurd h hk.2
      · rw [gI_sI, if_pos ⟨rfl, rfl, rfl⟩]
    · rw [List.getElem?_set_ne (Ne.symm hj), fvs_at hl, fvs_at hl]
      unfold fv
      rw [gI_sI, gL_sI, if_neg (fun z => hj z.2.2)]
  · rw [List.getElem?_eq_none (by rw [List.length_set, fvs_len]; omega), List.getElem?_eq_none (by rw [fvs_len]; omega)]
theorem fvs_setL {α : Nat → Nat → Nat} {σ : St} {t i k : Nat} {x : Int64} (hk : (fkd (t / 8) k).1 = 1) : (fvs α σ t i).set k (.long x) = fvs α (sL σ t i k x) t i := by
  apply List.ext_getElem?
  intro j
  by_cases hl : j < (fds.getD (t / 8) []).length
  · by_cases hj : j = k
    · subst hj
      rw [List.getElem?_set_self (by rw [fvs_len]; exact hl), fvs_at hl]
      unfold fv
      rw [hk]
      show some (Value.long x) = some (.long (gL (sL σ t i j x) t i j))
      rw [gL_sL, if_pos ⟨rfl, rfl, rfl⟩]
    · rw [List.getElem?_set_ne (Ne.symm hj), fvs_at hl, fvs_at hl]
      unfold fv
      rw [gL_sL, gI_sL, if_neg (fun z => hj z.2.2)]
  · rw [List.getElem?_eq_none (by rw [List.length_set, fvs_len]; omega), List.getElem?_eq_none (by rw [fvs_len]; omega)]
def tyl (cT : Nat → ClassId) : List (ClassId × FieldType) := atg.map (fun q => (cT q.1, q.2))
/-- the texts -/
def stx : List String := ["at", "flue", "hopes", "law", "looker", "mark", "odds", "place", "roof", "way", "worth", "years"]
def slens : List Nat := sws.map List.length
/-- what the tables say, and the places of the texts -/
def KK (α : Nat → Nat → Nat) (cT : Nat → ClassId) (D : va_G) (U : State) : Prop := va_K D vwCl (tyl cT) U ∧ (∀ e ∈ nls, va_Nw (nwd e) U) ∧ ∀ k, k < 12 → vk_R RX5 (sks.getD k 0) (stx.getD k "") (α 494 k) U
theorem KK.moved {α : Nat → Nat → Nat} {cT : Nat → ClassId} {D : va_G} {s U : State} (hW : s.WarmedH U.vm) (h : KK α cT D s) : KK α cT D U := ⟨va_K.moved hW.alike h.1, fun e he => va_Nw.warmM hW (h.2.1 e he), fun k hk => vk_R.warm hW (h.2.2 k hk)⟩
theorem KK.same {α : Nat → Nat → Nat} {cT : Nat → ClassId} {D : va_G} {s U : State} (hv : U.vm = s.vm) (h : KK α cT D s) : KK α cT D U := ⟨va_K.moved (by rw [hv]; exact Vm.Alike.refl s.vm) h.1, fun e he => va_Nw.same rfl hv.symm (h.2.1 e he), fun k hk => vk_R.same hv (h.2.2 k hk)⟩
/-- the texts, and what String's own methods ask of statics -/
def vzS (α : Nat → Nat → Nat) (adV : Nat → Nat) (A : Nat → Prop) (U : State) (H : Heap) : Prop := vk_S 12 slens sws (α 494) adV A U H ∧ va_Z "java/lang/String" "COMPACT_STRINGS" "Z" (.int 1) A U H ∧ va_Zq "jdk/internal/util/Preconditions" "SIOOBE_FORMATTER" "Ljava/util/function/BiFunction;" A U H
theorem vzS.moved {α : Nat → Nat → Nat} {adV : Nat → Nat} {A : Nat → Prop} {u U : State} {H : Heap} (hvm : u.vm.Alike U.vm) (h : vzS α adV A u H) : vzS α adV A U H := ⟨vk_S.moved hvm h.1, va_Z.moved hvm h.2.1, va_Zq.moved hvm h.2.2⟩
theorem vzS.kept {α : Nat → Nat → Nat} {adV : Nat → Nat} {A : Nat → Prop} {U : State} {H H1 : Heap} (h : vzS α adV A U H) (hq : ∀ a : Nat, a < H.size → ¬ A a → H1[a]? = H[a]?) : vzS α adV A U H1 := ⟨h.1.kept hq, h.2.1.kept hq, h.2.2.kept hq⟩
theorem vzS.narrow {α : Nat → Nat → Nat} {adV : Nat → Nat} {A B : Nat → Prop} {U : State} {H : Heap} (h : vzS α adV A U H) (hAB : ∀ q, B q → A q) : vzS α adV B U H := ⟨h.1.narrow hAB, h.2.1.narrow hAB, h.2.2.narrow hAB⟩
/-- which cells a method may change -/
def AA (α : Nat → Nat → Nat) (sz : Nat) : Nat → Prop := fun q => (∃ p, p ∈ dom ∧ q = α p.1 p.2) ∨ sz ≤ q
/-- a cell of the world, a text, or the script -/
def okr (scr : Bool) (q : Nat × Nat) : Prop := q ∈ dom ∨ (q.1 = 494 ∧ q.2 < 12) ∨ (scr = true ∧ q = (497, 0))
def okv (scr : Bool) (v : AV) : Prop := match v with
  | .inr (.inr q) => okr scr q
  | _ => True
theorem dom_at {q : Nat × Nat} (h : q ∈ dom) : ∃ q0 : Nat, dom[q0]? = some q := List.getElem?_of_mem h
/-- the tags of the domain: objects' are 8 times their number, arrays' stand in atg with their kind -/
def tagok (t : Nat) : Bool := match lk t with
  | 0 => decide (t / 8 < 13 ∧ t = 8 * (t / 8) ∧ (fds.getD (t / 8) []).length = (Tc (t / 8)).2.2)
  | 1 => atg.any (fun e => decide (e = (t, .int)))
  | 2 => atg.any (fun e => decide (e = (t, .long)))
  | 3 => atg.any (fun e => decide (e = (t, .byte)))
  | 4 => atg.any (fun e => decide (e = (t, .boolean)))
  | 5 => atg.any (fun e => decide (e.1 = t) && e.2.isReference)
  | _ => false
theorem dom_tags : dom.all (fun q => tagok q.1 && !(Nat.beq q.1 497) && !(Nat.beq q.1 494)) = true := by decide +kernel
def refsok (q : Nat × Nat) : Bool := match lk q.1 with
  | 0 => (List.range (fds.getD (q.1 / 8) []).length).all (fun k => match fkd (q.1 / 8) k with
    | (2, t', f, b) => dom.contains (t', lfi f b q.2)
    | _ => true)
  | 5 => (List.range (ln q.1 q.2)).all (fun j => dom.contains (la q.1 q.2 j))
  | _ => true
theorem dom_refs : dom.all refsok = true := by decide +kernel
