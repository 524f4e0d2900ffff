/-! one step, and so many, and a method -/
section SND7
variable {p : Program} {l : Launch} {e : Env} {R : Room} {s : State} {mi : MethodId} {args : Array Value} {below : List Frame} {meth : Method} {c : Code} {cells slots : Nat} {Q : State → Prop} {α : Nat → Nat → Nat} {cT : Nat → ClassId} {D : va_G} {adV : Nat → Nat} {scr : Bool} {xs : Nat → Int32} {Ln m : Nat} {K : AK} {z : AR}
variable {pc : Nat} {L : AL} {S : List AV} {σ : St} {H : Heap} {locs : List Loc} {ls : Array Slot}
theorem tgt1 {t : Nat} {o : Int} (h : tgts pc [t] [o] = true) : (pc : Int) + o = (t : Int) := by
  have h : (decide ((pc : Int) + o = (t : Int)) && true) = true := h
  rw [Bool.and_true] at h
  exact of_decide_eq_true h
theorem tgts_at : ∀ (ts : List Nat) (os : List Int), tgts pc ts os = true → ts.length = os.length ∧ ∀ (k t : Nat), ts[k]? = some t → ∃ o, os[k]? = some o ∧ (pc : Int) + o = (t : Int)
  | [], [], _ => ⟨rfl, fun k t h => by simp at h⟩
  | [], _ :: _, h => by cases h
  | _ :: _, [], h => by cases h
  | t :: ts, o :: os, h => by
    have h : (decide ((pc : Int) + o = (t : Int)) && tgts pc ts os) = true := h
    rw [Bool.and_eq_true] at h
    obtain ⟨h1, h2⟩ := tgts_at ts os h.2
    refine ⟨by simp [h1], fun k t' hk => ?_⟩
    cases k with
    | zero =>
      simp at hk
      subst hk
      exact ⟨o, rfl, of_decide_eq_true h.1⟩
    | succ k =>
      obtain ⟨o', h3, h4⟩ := h2 k t' (by simpa using hk)
      exact ⟨o', by simpa using h3, h4⟩
theorem jmp_or {L : AL} {S : List AV} {σ : St} {x : Int32} {d : Nat} : ∀ (ts : List Nat) (lo : Int), jmp K L S σ x d lo ts = some z → (∃ k t : Nat, ts[k]? = some t ∧ x.toInt = lo + k ∧ K t L S σ = some z) ∨ ((∀ k : Nat, k < ts.length → ¬ x.toInt = lo + k) ∧ K d L S σ = some z)
  | [], lo, h => Or.inr ⟨fun k hk => by simp at hk, h⟩
  | t :: ts, lo, h => by
    have h : (if x.toInt = lo then K t L S σ else jmp K L S σ x d (lo + 1) ts) = some z := h
    split at h
    · next hq => exact Or.inl ⟨0, t, rfl, by omega, h⟩
    · next hq =>
      rcases jmp_or ts (lo + 1) h with ⟨k, t', h1, h2, h3⟩ | ⟨h1, h2⟩
      · exact Or.inl ⟨k + 1, t', by simpa using h1, by omega, h3⟩
      · refine Or.inr ⟨fun k hk => ?_, h2⟩
        cases k with
        | zero => omega
        | succ k =>
          have := h1 k (by simpa using hk)
          omega
theorem snd_jmp (hx : p.tables.exec = Jvm.exec) (hb : c.code = mbt m) (hK : KS p l e R s mi args below meth c cells slots Q α cT D scr xs Ln (maxL m) K z) {d lo hi : Int} {os : Array Int} {len : Nat} {x : Int32} {d' : Nat} {ts : List Nat} {S' : List AV} (hd : decode (mbt m) pc = .ok (.tableswitch d lo hi os, len)) (hok : tgts pc (d' :: ts) (d :: os.toList) = true) (hhi : hi = lo + os.size - 1)
    (h : jmp K L S' σ x d' lo ts = some z) (hS : ∀ v ∈ (.inl x :: S' : List AV), okv scr v) (hL : ∀ v, some v ∈ L → okv scr v) (hn : L.length = maxL m) (hI : IW α cT D s scr xs Ln σ H locs) (hl : lv_has ls (maxL m) (lvl α 0 L)) : W p l e R s mi args below meth c H locs cells slots Q (F0 mi pc ls ((.inl x :: S' : List AV).map (conc α))) := by
  have hok : (decide ((pc : Int) + d = (d' : Int)) && tgts pc ts os.toList) = true := hok
  rw [Bool.and_eq_true] at hok
  have hdt := of_decide_eq_true hok.1
  obtain ⟨hlen, hat⟩ := tgts_at ts os.toList hok.2
  have hlen : ts.length = os.size := by rw [hlen, Array.length_toList]
  have kk : ∀ t, K t L S' σ = some z → W p l e R s mi args below meth c H locs cells slots Q (F0 mi t ls (S'.map (conc α))) := fun t ht => hK _ _ _ _ ht (okS_tail hS) hL hn H locs ls hI hl
  rcases jmp_or ts lo h with ⟨k, t, h1, h2, h3⟩ | ⟨h1, h2⟩
  · have hlt : k < ts.length := (List.getElem?_eq_some_iff.mp h1).1
    obtain ⟨o, g1, g2⟩ := hat k t h1
    exact lv_tableIn hx hb hd (by omega) (by omega) (by rw [← Array.getElem?_toList, show (x.toInt - lo).toNat = k by omega]; exact g1) g2 (kk t h3)
  · by_cases hlo : x.toInt < lo
    · exact lv_tableOut hx hb hd (Or.inl hlo) hdt (kk d' h2)
    · refine lv_tableOut hx hb hd (Or.inr ?_) hdt (kk d' h2)
      by_cases hq : hi < x.toInt
      · exact hq
      · exact absurd (show x.toInt = lo + ((x.toInt - lo).toNat : Nat) by omega) (h1 _ (by omega))
theorem snd_prmS (X : CX p s mi args c α cT D adV scr xs Ln m) (hK : KS p l e R s mi args below meth c cells slots Q α cT D scr xs Ln (maxL m) K z) {idx w r : Nat} (hd : decode (mbt m) pc = .ok (.invokestatic idx, 3)) (hlk : Cond.methodLink (cnm (mcl m)) idx (pnm w) ∈ WS) (hw4 : w ≤ 4) (hw : ¬ (w = 1 ∨ w = 2)) (hlev : 1 ≤ lev m) (hR : lev m + r ≤ R.frames ∧ 64 * (lev m + r) ≤ R.locals ∧ cells ≤ R.cells ∧ slots ≤ R.slots)
    (h : prm K (pc + 3) L S σ w = some z) (hS : ∀ v ∈ S, okv scr v) (hL : ∀ v, some v ∈ L → okv scr v) (hn : L.length = maxL m) (hI : IW α cT D s scr xs Ln σ H locs) (hl : lv_has ls (maxL m) (lvl α 0 L)) : W p l e R s mi args below meth c H locs cells slots Q (F0 mi pc ls (S.map (conc α))) := by
  have hR1 : 1 ≤ R.frames ∧ 64 ≤ R.locals := ⟨by omega, by omega⟩
  have X0 := X
  obtain ⟨hx, hb, hml, hown, hts, hKK, -, -⟩ := X
  match w, hw4, hw with
  | 0, _, _ => exact snd_cpA X0 hK hd hlk hR1 h hS hL hn hI hl
  | 1, _, q => exact absurd (Or.inl rfl) q
  | 2, _, q => exact absurd (Or.inr rfl) q
  | 3, _, _ => exact snd_mm hK (fun x y rest hr k => va_mmax hx hb (by rw [hml]; exact hl.1.symm) hown (hts _ hlk) (hts _ pw3.1) (hts _ pw3.2.1) (hts _ pw3.2.2) hR1.1 (by omega) hR.2.2.1 hR.2.2.2 hd k) h hS hL hn hI hl
  | 4, _, _ => exact snd_mm hK (fun x y rest hr k => va_mmin hx hb (by rw [hml]; exact hl.1.symm) hown (hts _ hlk) (hts _ pw4.1) (hts _ pw4.2.1) (hts _ pw4.2.2) hR1.1 (by omega) hR.2.2.1 hR.2.2.2 hd k) h hS hL hn hI hl
  | n + 5, q, _ => omega
theorem chp : (parseMethodDescriptor yJ0_charAt_5068e.desc).map (fun d => d.parameters.length) = some 1 := by decide +kernel
theorem prm1 {K : AK} {pc : Nat} {L : AL} {S : List AV} {σ : St} : prm K pc L S σ 1 = (match S with
    | .inr (.inr (t, i)) :: S' => cond (Nat.beq t 494 && Nat.ble (asum S') 8) (K pc L (.inl (Int32.ofNat (slen i)) :: S') σ) none
    | _ => none) := rfl
theorem prm2 {K : AK} {pc : Nat} {L : AL} {S : List AV} {σ : St} : prm K pc L S σ 2 = (match S with
    | .inl j :: .inr (.inr (t, i)) :: S' => cond (Nat.beq t 494 && Nat.ble (asum S') 8) (ix j (slen i) (fun k => K pc L (.inl (sch i k) :: S') σ)) none
    | _ => none) := rfl
theorem snd_prmV (X : CX p s mi args c α cT D adV scr xs Ln m) (hK : KS p l e R s mi args below meth c cells slots Q α cT D scr xs Ln (maxL m) K z) (hTX : TX l α cT D adV) {idx w r : Nat} (hd : decode (mbt m) pc = .ok (.invokevirtual idx, 3)) (hlk : Cond.methodLink (cnm (mcl m)) idx (pnm w) ∈ WS) (hw : w = 1 ∨ w = 2) (hlev : 8 ≤ lev m) (hR : lev m + r ≤ R.frames ∧ 64 * (lev m + r) ≤ R.locals ∧ cells ≤ R.cells ∧ slots ≤ R.slots)
    (h : prm K (pc + 3) L S σ w = some z) (hS : ∀ v ∈ S, okv scr v) (hL : ∀ v, some v ∈ L → okv scr v) (hn : L.length = maxL m) (hI : IW α cT D s scr xs Ln σ H locs) (hl : lv_has ls (maxL m) (lvl α 0 L)) : W p l e R s mi args below meth c H locs cells slots Q (F0 mi pc ls (S.map (conc α))) := by
  have hR1 : 8 ≤ R.frames ∧ 512 ≤ R.locals ∧ cells ≤ R.cells ∧ slots ≤ R.slots := ⟨by omega, by omega, hR.2.2⟩
  have str12 : ∀ i, okr scr (494, i) → i < 12 := fun i ho => by
    rcases ho with ho | ⟨-, ho⟩ | ⟨-, ho⟩
    · exact absurd rfl (tag_of ho).2.2
    · exact ho
    · cases ho
  rcases hw with rfl | rfl
  · rw [prm1] at h
    split at h
    · next t i S' =>
      cases hq : (Nat.beq t 494 && Nat.ble (asum S') 8)
      · rw [hq] at h; cases h
      · rw [hq] at h
        rw [Bool.and_eq_true] at hq
        have ht := Nat.eq_of_beq_eq_true hq.1
        subst ht
        have hi := str12 i (hS _ List.mem_cons_self)
        exact snd_tx (As := []) X hK hd hlk hR1 pw1 rfl (by decide) (by decide +kernel) hi (Nat.le_of_ble_eq_true hq.2) (hTX.1 i σ H.size hi) trivial h (okS_tail hS) hL hn hI hl
    · cases h
  · rw [prm2] at h
    split at h
    · next j t i S' =>
      cases hq : (Nat.beq t 494 && Nat.ble (asum S') 8)
      · rw [hq] at h; cases h
      · rw [hq] at h
        rw [Bool.and_eq_true] at hq
        have ht := Nat.eq_of_beq_eq_true hq.1
        subst ht
        have hi := str12 i (hS _ (List.mem_cons_of_mem _ List.mem_cons_self))
        simp only [cond_true] at h
        obtain ⟨hj, h⟩ := inb_of h
        exact snd_tx (As := [.inl j]) X hK hd hlk hR1 pw2 rfl (by decide) chp hi (Nat.le_of_ble_eq_true hq.2) (hTX.2 i j σ H.size hi hj) trivial h (okS_tail (okS_tail hS)) hL hn hI hl
    · cases h
/-- what a method's end gives -/
def RT (p : Program) (l : Launch) (e : Env) (R : Room) (s : State) (mi : MethodId) (args : Array Value) (below : List Frame) (meth : Method) (c : Code) (cells slots : Nat) (Q : State → Prop) (α : Nat → Nat → Nat) (cT : Nat → ClassId) (D : va_G) (scr : Bool) (xs : Nat → Int32) (Ln m : Nat) (z : AR) : Prop :=
  ∀ pc σ H locs ls, IW α cT D s scr xs Ln σ H locs → z.2 = σ →
    (∀ x, z.1 = some (.inl x) → decode (mbt m) pc = .ok (.ireturn, 1) → (mrt m = some .int ∨ (mrt m = some .boolean ∧ (x = 0 ∨ x = 1))) → W p l e R s mi args below meth c H locs cells slots Q (F0 mi pc ls [.int x])) ∧
    (∀ x, z.1 = some (.inr (.inl x)) → decode (mbt m) pc = .ok (.lreturn, 1) → mrt m = some .long → W p l e R s mi args below meth c H locs cells slots Q (F0 mi pc ls [.long x])) ∧
    (z.1 = none → decode (mbt m) pc = .ok (.return_, 1) → mrt m = none → W p l e R s mi args below meth c H locs cells slots Q (F0 mi pc ls []))
theorem lkup_mem {β : Type} {pc : Nat} {x : β} : ∀ (l : List (Nat × β)), lkup pc l = some x → (pc, x) ∈ l
  | [], h => by cases h
  | (k, y) :: l, h => by
    have h : cond (Nat.beq k pc) (some y) (lkup pc l) = some x := h
    cases hq : Nat.beq k pc
    · rw [hq] at h
      exact List.mem_cons_of_mem _ (lkup_mem l h)
    · rw [hq] at h
      cases h
      rw [Nat.eq_of_beq_eq_true hq]
      exact List.mem_cons_self
theorem okE_dec {pc len : Nat} {ins : Instr} {ys : List Nat} {cv : Int32 ⊕ Int64} (h : okE m (pc, ins, len, ys, cv) = true) : decode (mbt m) pc = .ok (ins, len) := by
  unfold okE at h
  rw [Bool.and_eq_true] at h
  exact of_decide_eq_true h.1
theorem okE_x {pc len : Nat} {ins : Instr} {ys : List Nat} {cv : Int32 ⊕ Int64} (h : okE m (pc, ins, len, ys, cv) = true) : okX m pc ins len ys cv = true := by
  unfold okE at h
  rw [Bool.and_eq_true] at h
  exact h.2
set_option maxHeartbeats 4000000 in
theorem snd_step (X : CX p s mi args c α cT D adV scr xs Ln m) {C : AC} (hC : CS l α cT D adV C) (hCk : CK C) (hTX : TX l α cT D adV) (hK : KS p l e R s mi args below meth c cells slots Q α cT D scr xs Ln (maxL m) K z) (hret : RT p l e R s mi args below meth c cells slots Q α cT D scr xs Ln m z) {r : Nat} (hR : lev m + r ≤ R.frames ∧ 64 * (lev m + r) ≤ R.locals ∧ cells ≤ R.cells ∧ slots ≤ R.slots) (hck : ∀ pc, (tbq m pc).all (okE m) = true)
    (h : stepF K C m r pc L S σ = some z) (hS : ∀ v ∈ S, okv scr v) (hL : ∀ v, some v ∈ L → okv scr v) (hn : L.length = maxL m) (hI : IW α cT D s scr xs Ln σ H locs) (hl : lv_has ls (maxL m) (lvl α 0 L)) : W p l e R s mi args below meth c H locs cells slots Q (F0 mi pc ls (S.map (conc α))) := by
  have hown := X.2.2.2.1
  have hts := X.2.2.2.2.1
  have hKK := X.2.2.2.2.2.1
  have hx := X.1
  have hb := X.2.1
  unfold stepF at h
  split at h
  · cases h
  next ins len ys cv hat =>
  have hd : decode (mbt m) pc = .ok (ins, len) := okE_dec (List.all_eq_true.mp (hck pc) _ (lkup_mem _ hat))
  have hok : okX m pc ins len ys cv = true := okE_x (List.all_eq_true.mp (hck pc) _ (lkup_mem _ hat))
  clear hat
  cases ins
  case iconst n =>
    have ho := of_decide_eq_true hok
    obtain ⟨rfl, rfl⟩ := ho
    exact lv_iconst hx hb hd rfl (hK _ _ _ _ h (okS_cons trivial hS) hL hn H locs ls hI hl)
  case bipush n =>
    have ho := of_decide_eq_true hok
    obtain ⟨rfl, rfl⟩ := ho
    exact lv_bipush hx hb hd rfl (hK _ _ _ _ h (okS_cons trivial hS) hL hn H locs ls hI hl)
  case sipush n =>
    have ho := of_decide_eq_true hok
    obtain ⟨rfl, rfl⟩ := ho
    exact lv_sipush hx hb hd rfl (hK _ _ _ _ h (okS_cons trivial hS) hL hn H locs ls hI hl)
  case lconst n =>
    have ho := of_decide_eq_true hok
    obtain ⟨rfl, rfl⟩ := ho
    exact lv_lconst hx hb hd rfl (hK _ _ _ _ h (okS_cons trivial hS) hL hn H locs ls hI hl)
  case ldc i =>
    unfold okX at hok
    rw [Bool.and_eq_true] at hok
    obtain ⟨hlen, hok⟩ := hok
    replace hlen := of_decide_eq_true hlen
    subst hlen
    split at hok
    · obtain ⟨q, hq, hqd⟩ := List.any_eq_true.mp hok
      obtain ⟨g1, g2, rfl⟩ := of_decide_eq_true hqd
      have ho := List.all_eq_true.mp oki_all q hq
      rw [g1, g2] at ho
      exact lv_ldc hx hb hown (hts _ (WS_in (inT_mem ho) rfl)) hd (hK _ _ _ _ h (okS_cons trivial hS) hL hn H locs ls hI hl)
    · next k =>
      obtain ⟨g1, g2, g3⟩ := of_decide_eq_true hok
      have hr := hKK.2.2 k g3
      rw [g2] at hr
      have hown5 : s.vm.findClass RX5 = some mi.cls := by rw [g1] at hown; exact hown
      exact va_ldcS hx hb hown5 hr hd (hK _ _ _ _ h (okS_cons (v := .inr (.inr (494, k))) (Or.inr (Or.inl ⟨rfl, g3⟩)) hS) hL hn H locs ls hI hl)
    · cases hok
  case ldc_w i =>
    replace hok : (decide (len = 3) && kis.any (fun e => decide (e.1 = mcl m ∧ e.2.1 = i ∧ cv = .inl e.2.2.1))) = true := hok
    rw [Bool.and_eq_true] at hok
    obtain ⟨hlen, hok⟩ := hok
    replace hlen := of_decide_eq_true hlen
    subst hlen
    obtain ⟨q, hq, hqd⟩ := List.any_eq_true.mp hok
    obtain ⟨g1, g2, rfl⟩ := of_decide_eq_true hqd
    have ho := List.all_eq_true.mp oki_all q hq
    rw [g1, g2] at ho
    exact lv_ldcw hx hb hown (hts _ (WS_in (inT_mem ho) rfl)) hd (hK _ _ _ _ h (okS_cons trivial hS) hL hn H locs ls hI hl)
  case ldc2_w i =>
    replace hok : (decide (len = 3) && kls.any (fun e => decide (e.1 = mcl m ∧ e.2.1 = i ∧ cv = .inr e.2.2.1))) = true := hok
    rw [Bool.and_eq_true] at hok
    obtain ⟨hlen, hok⟩ := hok
    replace hlen := of_decide_eq_true hlen
    subst hlen
    obtain ⟨q, hq, hqd⟩ := List.any_eq_true.mp hok
    obtain ⟨g1, g2, rfl⟩ := of_decide_eq_true hqd
    have ho := List.all_eq_true.mp okj_all q hq
    rw [g1, g2] at ho
    exact lv_ldc2 hx hb hown (hts _ (WS_in (inT_mem ho) rfl)) hd (hK _ _ _ _ h (okS_cons trivial hS) hL hn H locs ls hI hl)
  case iload i =>
    have ho := of_decide_eq_true hok
    subst ho
    exact snd_ldI hx hb hK (Or.inl ⟨hd, rfl⟩) h hS hL hn hI hl
  case iload_n i =>
    have ho := of_decide_eq_true hok
    subst ho
    exact snd_ldI hx hb hK (Or.inr ⟨i, hd, rfl, rfl⟩) h hS hL hn hI hl
  case lload i =>
    have ho := of_decide_eq_true hok
    subst ho
    exact snd_ldL hx hb hK (Or.inl ⟨hd, rfl⟩) h hS hL hn hI hl
  case lload_n i =>
    have ho := of_decide_eq_true hok
    subst ho
    exact snd_ldL hx hb hK (Or.inr ⟨i, hd, rfl, rfl⟩) h hS hL hn hI hl
  case aload i =>
    have ho := of_decide_eq_true hok
    subst ho
    exact snd_ldA hx hb hK (Or.inl ⟨hd, rfl⟩) h hS hL hn hI hl
  case aload_n i =>
    have ho := of_decide_eq_true hok
    subst ho
    exact snd_ldA hx hb hK (Or.inr ⟨i, hd, rfl, rfl⟩) h hS hL hn hI hl
  case istore i =>
    have ho := of_decide_eq_true hok
    subst ho
    exact snd_stI hx hb hK (Or.inl ⟨hd, rfl⟩) h hS hL hn hI hl
  case istore_n i =>
    have ho := of_decide_eq_true hok
    subst ho
    exact snd_stI hx hb hK (Or.inr ⟨i, hd, rfl, rfl⟩) h hS hL hn hI hl
  case lstore i =>
    have ho := of_decide_eq_true hok
    subst ho
    exact snd_stL hx hb hK (Or.inl ⟨hd, rfl⟩) h hS hL hn hI hl
  case lstore_n i =>
    have ho := of_decide_eq_true hok
    subst ho
    exact snd_stL hx hb hK (Or.inr ⟨i, hd, rfl, rfl⟩) h hS hL hn hI hl
  case astore i =>
    have ho := of_decide_eq_true hok
    subst ho
    exact snd_stA hx hb hK (Or.inl ⟨hd, rfl⟩) h hS hL hn hI hl
  case astore_n i =>
    have ho := of_decide_eq_true hok
    subst ho
    exact snd_stA hx hb hK (Or.inr ⟨i, hd, rfl, rfl⟩) h hS hL hn hI hl
  case iinc i n =>
    obtain ⟨rfl, rfl⟩ := of_decide_eq_true hok
    replace h : (match L[i]?, (Sum.inl (Int32.ofInt n) : Int32 ⊕ Int64) with
      | some (some (.inl x)), .inl n => K (pc + 3) (lset1 L i (.inl (x + n))) S σ
      | _, _ => none) = some z := h
    split at h
    · next x n2 hx2 hn2 =>
      cases hn2
      obtain ⟨k, hk⟩ := lvl_idx (α := α) hx2
      have hi : i < maxL m := by rw [← hn]; exact (List.getElem?_eq_some_iff.mp hx2).1
      exact lv_iinc hx hb hd hl hk rfl hi rfl (fun ls' hl' => hK _ _ _ _ h hS (okL_set1 hL (v := .inl _) trivial) (by rw [lset1_len]; exact hn) H locs ls' hI (lset1_has (v := .inl _) hl'))
    · cases h
  case iadd =>
    have ho := of_decide_eq_true hok
    subst ho
    exact snd_biI hK (fun x y rest k => lv_iadd hx hb hd k) h hS hL hn hI hl
  case isub =>
    have ho := of_decide_eq_true hok
    subst ho
    exact snd_biI hK (fun x y rest k => lv_isub hx hb hd k) h hS hL hn hI hl
  case imul =>
    have ho := of_decide_eq_true hok
    subst ho
    exact snd_biI hK (fun x y rest k => lv_imul hx hb hd k) h hS hL hn hI hl
  case iand =>
    have ho := of_decide_eq_true hok
    subst ho
    exact snd_biI hK (fun x y rest k => lv_iand hx hb hd k) h hS hL hn hI hl
  case ior =>
    have ho := of_decide_eq_true hok
    subst ho
    exact snd_biI hK (fun x y rest k => lv_ior hx hb hd k) h hS hL hn hI hl
  case ixor =>
    have ho := of_decide_eq_true hok
    subst ho
    exact snd_biI hK (fun x y rest k => lv_ixor hx hb hd k) h hS hL hn hI hl
  case ishl =>
    have ho := of_decide_eq_true hok
    subst ho
    exact snd_biI hK (fun x y rest k => lv_ishl hx hb hd k) h hS hL hn hI hl
  case ishr =>
    have ho := of_decide_eq_true hok
    subst ho
    exact snd_biI hK (fun x y rest k => lv_ishr hx hb hd k) h hS hL hn hI hl
  case iushr =>
    have ho := of_decide_eq_true hok
    subst ho
    exact snd_biI hK (fun x y rest k => lv_iushr hx hb hd rfl k) h hS hL hn hI hl
  case idiv =>
    have ho := of_decide_eq_true hok
    subst ho
    exact snd_dvI hK (fun x y rest hy k => lv_idiv hx hb hd hy k) h hS hL hn hI hl
  case irem =>
    have ho := of_decide_eq_true hok
    subst ho
    exact snd_dvI hK (fun x y rest hy k => lv_irem hx hb hd hy k) h hS hL hn hI hl
  case ladd =>
    have ho := of_decide_eq_true hok
    subst ho
    exact snd_biL hK (fun x y rest k => lv_ladd hx hb hd k) h hS hL hn hI hl
  case lsub =>
    have ho := of_decide_eq_true hok
    subst ho
    exact snd_biL hK (fun x y rest k => lv_lsub hx hb hd k) h hS hL hn hI hl
  case lmul =>
    have ho := of_decide_eq_true hok
    subst ho
    exact snd_biL hK (fun x y rest k => lv_lmul hx hb hd k) h hS hL hn hI hl
  case land =>
    have ho := of_decide_eq_true hok
    subst ho
    exact snd_biL hK (fun x y rest k => lv_land hx hb hd k) h hS hL hn hI hl
  case lor =>
    have ho := of_decide_eq_true hok
    subst ho
    exact snd_biL hK (fun x y rest k => lv_lor hx hb hd k) h hS hL hn hI hl
  case ldiv =>
    have ho := of_decide_eq_true hok
    subst ho
    exact snd_dvL hK (fun x y rest hy k => lv_ldiv hx hb hd hy k) h hS hL hn hI hl
  case lrem =>
    have ho := of_decide_eq_true hok
    subst ho
    exact snd_dvL hK (fun x y rest hy k => lv_lrem hx hb hd hy k) h hS hL hn hI hl
  case lcmp =>
    have ho := of_decide_eq_true hok
    subst ho
    dsimp only [stepI] at h
    split at h
    · exact W.lcmp hx hb hd (hK _ _ _ _ h (okS_cons trivial (okS_tail (okS_tail hS))) hL hn H locs ls hI hl)
    · cases h
  case lshl =>
    have ho := of_decide_eq_true hok
    subst ho
    dsimp only [stepI] at h
    split at h
    · exact lv_lshl hx hb hd rfl (hK _ _ _ _ h (okS_cons trivial (okS_tail (okS_tail hS))) hL hn H locs ls hI hl)
    · cases h
  case i2l =>
    have ho := of_decide_eq_true hok
    subst ho
    dsimp only [stepI] at h
    split at h
    · exact lv_i2l hx hb hd rfl (hK _ _ _ _ h (okS_cons trivial (okS_tail hS)) hL hn H locs ls hI hl)
    · cases h
  case l2i =>
    have ho := of_decide_eq_true hok
    subst ho
    dsimp only [stepI] at h
    split at h
    · exact lv_l2i hx hb hd rfl (hK _ _ _ _ h (okS_cons trivial (okS_tail hS)) hL hn H locs ls hI hl)
    · cases h
  case i2b =>
    have ho := of_decide_eq_true hok
    subst ho
    dsimp only [stepI] at h
    split at h
    · exact lv_i2b hx hb hd rfl (hK _ _ _ _ h (okS_cons trivial (okS_tail hS)) hL hn H locs ls hI hl)
    · cases h
  case i2s =>
    have ho := of_decide_eq_true hok
    subst ho
    dsimp only [stepI] at h
    split at h
    · exact lv_i2s hx hb hd rfl (hK _ _ _ _ h (okS_cons trivial (okS_tail hS)) hL hn H locs ls hI hl)
    · cases h
  case dup =>
    have ho := of_decide_eq_true hok
    subst ho
    dsimp only [stepI] at h
    split at h
    · next v S' =>
      cases hb1 : Nat.beq (acat v) 1
      · rw [hb1] at h; cases h
      · rw [hb1] at h
        exact lv_dup hx hb hd (by rw [cat_conc]; exact Nat.eq_of_beq_eq_true hb1) (hK _ _ _ _ h (okS_cons (hS _ List.mem_cons_self) hS) hL hn H locs ls hI hl)
    · cases h
  case dup2 =>
    have ho := of_decide_eq_true hok
    subst ho
    dsimp only [stepI] at h
    split at h
    · next x v S' =>
      cases hb1 : Nat.beq (acat v) 1
      · rw [hb1] at h; cases h
      · rw [hb1] at h
        exact lv_dup2_11 (va := .int x) hx hb hd rfl (by rw [cat_conc]; exact Nat.eq_of_beq_eq_true hb1) (hK _ _ _ _ h (okS_cons trivial (okS_cons (hS _ (List.mem_cons_of_mem _ List.mem_cons_self)) hS)) hL hn H locs ls hI hl)
    · cases h
  case pop =>
    have ho := of_decide_eq_true hok
    subst ho
    dsimp only [stepI] at h
    split at h
    · exact lv_pop hx hb hd rfl (hK _ _ _ _ h (okS_tail hS) hL hn H locs ls hI hl)
    · cases h
  case goto o =>
    replace hok : (decide (len = 3) && tgts pc (ys.take 1) [o]) = true := hok
    rw [Bool.and_eq_true] at hok
    have hlen := of_decide_eq_true hok.1
    subst hlen
    dsimp only [stepI] at h
    split at h
    · next tq ks => exact lv_goto hx hb hd (tgt1 hok.2) (hK _ _ _ _ h hS (clr_ok ks hL) (by rw [clr_len]; exact hn) H locs ls hI (clr_has ks hl))
    · cases h
  case ifCond cd o =>
    replace hok : (decide (len = 3) && tgts pc ys [o]) = true := hok
    rw [Bool.and_eq_true] at hok
    have hlen := of_decide_eq_true hok.1
    subst hlen
    dsimp only [stepI] at h
    split at h
    · next t => exact snd_br1 hx hb hK hd (tgt1 hok.2) h hS hL hn hI hl
    · cases h
  case if_icmp cd o =>
    replace hok : (decide (len = 3) && tgts pc ys [o]) = true := hok
    rw [Bool.and_eq_true] at hok
    have hlen := of_decide_eq_true hok.1
    subst hlen
    dsimp only [stepI] at h
    split at h
    · next t => exact snd_br2 hx hb hK hd (tgt1 hok.2) h hS hL hn hI hl
    · cases h
  case tableswitch d lo hi os =>
    replace hok : (tgts pc ys (d :: os.toList) && decide (hi = lo + os.size - 1)) = true := hok
    rw [Bool.and_eq_true] at hok
    have hhi := of_decide_eq_true hok.2
    dsimp only [stepI] at h
    split at h
    · next x S' d' ts => exact snd_jmp hx hb hK hd hok.1 hhi h hS hL hn hI hl
    · cases h
  case getfield i =>
    replace hok : (decide (len = 3) && okfl m i ys false) = true := hok
    rw [Bool.and_eq_true] at hok
    have hlen := of_decide_eq_true hok.1
    subst hlen
    exact snd_gtF X hK hd hok.2 h hS hL hn hI hl
  case putfield i =>
    replace hok : (decide (len = 3) && okfl m i ys true) = true := hok
    rw [Bool.and_eq_true] at hok
    have hlen := of_decide_eq_true hok.1
    subst hlen
    exact snd_ptF X hK hd hok.2 h hS hL hn hI hl
  case iaload =>
    have ho := of_decide_eq_true hok
    subst ho
    dsimp only [stepI] at h
    split at h
    · next j t i S' =>
      cases hk : Nat.beq (lk t) 1
      · rw [hk] at h; cases h
      · rw [hk] at h
        exact snd_iald X hK hd hk h hS hL hn hI hl
    · cases h
  case baload =>
    have ho := of_decide_eq_true hok
    subst ho
    dsimp only [stepI] at h
    split at h
    · next j t i S' =>
      cases hk : (Nat.beq (lk t) 3 || Nat.beq (lk t) 4)
      · rw [hk] at h; cases h
      · rw [hk] at h
        exact snd_bald X hK hd hk h hS hL hn hI hl
    · cases h
  case laload =>
    have ho := of_decide_eq_true hok
    subst ho
    dsimp only [stepI] at h
    split at h
    · next j t i S' =>
      cases hk : Nat.beq (lk t) 2
      · rw [hk] at h; cases h
      · rw [hk] at h
        exact snd_lald X hK hd hk h hS hL hn hI hl
    · cases h
  case aaload =>
    have ho := of_decide_eq_true hok
    subst ho
    dsimp only [stepI] at h
    split at h
    · next j t i S' =>
      cases hk : Nat.beq (lk t) 5
      · rw [hk] at h; cases h
      · rw [hk] at h
        exact snd_aald X hK hd hk h hS hL hn hI hl
    · cases h
  case iastore =>
    have ho := of_decide_eq_true hok
    subst ho
    dsimp only [stepI] at h
    split at h
    · next x j t i S' =>
      cases hk : (Nat.beq (lk t) 1 && !(Nat.beq t 497))
      · rw [hk] at h; cases h
      · rw [hk] at h
        simp only [Bool.and_eq_true, Bool.not_eq_true'] at hk
        exact snd_iast X hK hd hk.1 (fun q => by have := hk.2; rw [q] at this; simp at this) h hS hL hn hI hl
    · cases h
  case bastore =>
    have ho := of_decide_eq_true hok
    subst ho
    dsimp only [stepI] at h
    split at h
    · next x j t i S' =>
      cases hk : Nat.beq (lk t) 3
      · rw [hk] at h
        simp only [cond_false] at h
        cases hk4 : Nat.beq (lk t) 4
        · rw [hk4] at h; cases h
        · rw [hk4] at h
          simp only [cond_true] at h
          split at h
          · next h01 => exact snd_bast4 X hK hd hk4 h01 h hS hL hn hI hl
          · cases h
      · rw [hk] at h
        exact snd_bast3 X hK hd hk h hS hL hn hI hl
    · cases h
  case lastore =>
    have ho := of_decide_eq_true hok
    subst ho
    dsimp only [stepI] at h
    split at h
    · next x j t i S' =>
      cases hk : Nat.beq (lk t) 2
      · rw [hk] at h; cases h
      · rw [hk] at h
        exact snd_last X hK hd hk h hS hL hn hI hl
    · cases h
  case arraylength =>
    have ho := of_decide_eq_true hok
    subst ho
    dsimp only [stepI] at h
    split at h
    · next t i S' =>
      cases hk : (Nat.ble 1 (lk t) && Nat.ble (lk t) 5)
      · rw [hk] at h; cases h
      · rw [hk] at h
        exact snd_alen X hK hd hk h hS hL hn hI hl
    · cases h
  case invokevirtual i =>
    replace hok : (decide (len = 3) && okc m i true ys) = true := hok
    rw [Bool.and_eq_true] at hok
    have hlen := of_decide_eq_true hok.1
    subst hlen
    replace hok := hok.2
    dsimp only [stepI] at h
    unfold okc at hok
    split at h
    · next w =>
      dsimp only at hok
      rw [Bool.and_eq_true] at hok
      obtain ⟨g1, g2, g3, g4⟩ := of_decide_eq_true hok.2
      have hlk := pr_at hok.1
      exact snd_prmV X hK hTX hd hlk (by rcases (by simpa using g2.symm : w = 1 ∨ w = 2) with q | q <;> simp [q]) (g4 (by simpa using g2.symm)) hR h hS hL hn hI hl
    · next m' n rt cl =>
      dsimp only at hok
      simp only [Bool.and_eq_true, Bool.true_and] at hok
      have hcl := of_decide_eq_true hok.2
      unfold inw at h
      split at h
      · next t i2 S1 hdrop =>
        cases hbq : Nat.beq t (8 * cl)
        · rw [hbq] at h; cases h
        · rw [hbq] at h
          simp only [cond_true] at h
          exact snd_inv X hC hCk hK (Or.inl ⟨rfl, hd⟩) hok.1 hR (fun _ => ⟨hcl.1, hcl.2, t, i2, S1, hdrop, Nat.eq_of_beq_eq_true hbq⟩) h hS hL hn hI hl
      · cases h
    · cases h
  case invokestatic i =>
    replace hok : (decide (len = 3) && okc m i false ys) = true := hok
    rw [Bool.and_eq_true] at hok
    have hlen := of_decide_eq_true hok.1
    subst hlen
    replace hok := hok.2
    dsimp only [stepI] at h
    unfold okc at hok
    split at h
    · next w =>
      dsimp only at hok
      rw [Bool.and_eq_true] at hok
      obtain ⟨g1, g2, g3, g4⟩ := of_decide_eq_true hok.2
      have hlk := pr_at hok.1
      exact snd_prmS X hK hd hlk g1 (by simpa using g2.symm) g3 hR h hS hL hn hI hl
    · split at hok
      · next mq1 nq1 rq1 hq1 =>
        simp only [Bool.not_false, Bool.true_and] at hok
        exact snd_inv (cl := 0) X hC hCk hK (Or.inr ⟨rfl, hd⟩) hok hR (fun q => by cases q) h hS hL hn hI hl
      · simp at hok
      · next w hw => exact absurd rfl (hw w)
      · cases hok
  case ireturn =>
    unfold okX at hok
    rw [Bool.and_eq_true] at hok
    have hlen := of_decide_eq_true hok.1
    subst hlen
    replace hok := hok.2
    dsimp only [stepI] at h
    split at h
    · next x =>
      cases h
      exact (hret pc _ H locs ls hI rfl).1 x rfl hd (Or.inl (of_decide_eq_true hok))
    · next xq1 yq1 yq2 yq3 =>
      unfold retZ at h
      split at h
      · next h01 =>
        cases h
        refine (hret pc _ H locs ls hI rfl).1 yq2 rfl hd (Or.inr ⟨?_, h01⟩)
        split at hok
        · first | exact absurd rfl yq3 | exact absurd rfl yq2 | exact (yq3 _ rfl rfl).elim | exact (yq2 _ rfl rfl).elim | simp_all
        · exact of_decide_eq_true hok
      · cases h
    · cases h
  case lreturn =>
    obtain ⟨rfl, ho⟩ := of_decide_eq_true hok
    dsimp only [stepI] at h
    split at h
    · next x =>
      cases h
      exact (hret pc _ H locs ls hI rfl).2.1 x rfl hd ho
    · cases h
  case return_ =>
    obtain ⟨rfl, ho⟩ := of_decide_eq_true hok
    dsimp only [stepI] at h
    split at h
    · cases h
      exact (hret pc _ H locs ls hI rfl).2.2 rfl hd ho
    · cases h
  all_goals first | (cases h; done) | (dsimp only [stepI] at h; cases h)
/-- so many steps -/
theorem snd_exec (X : CX p s mi args c α cT D adV scr xs Ln m) {C : AC} (hC : CS l α cT D adV C) (hCk : CK C) (hTX : TX l α cT D adV) (hret : RT p l e R s mi args below meth c cells slots Q α cT D scr xs Ln m z) {r : Nat} (hR : lev m + r ≤ R.frames ∧ 64 * (lev m + r) ≤ R.locals ∧ cells ≤ R.cells ∧ slots ≤ R.slots) (hck : ∀ pc, (tbq m pc).all (okE m) = true) : ∀ n, KS p l e R s mi args below meth c cells slots Q α cT D scr xs Ln (maxL m) (exec C m r n) z
  | 0 => fun pc L S σ h => by cases h
  | n + 1 => fun pc L S σ h hS hL hn H locs ls hI hl => snd_step X hC hCk hTX (snd_exec X hC hCk hTX hret hR hck n) hret hR hck h hS hL hn hI hl
end SND7
