/-! arrays -/
section SND4
variable {p : Program} {l : Launch} {e : Env} {R : Room} {s : State} {mi : MethodId} {args : Array Value} {below : List Frame} {meth : Method} {c : Code} {cells slots : Nat} {Q : State → Prop} {α : Nat → Nat → Nat} {cT : Nat → ClassId} {D : va_G} {adV : Nat → Nat} {scr : Bool} {xs : Nat → Int32} {Ln m : Nat} {K : AK} {z : AR}
variable {pc : Nat} {L : AL} {S : List AV} {σ : St} {H : Heap} {locs : List Loc} {ls : Array Slot}
theorem lk_ty {t i k : Nat} (hin : (t, i) ∈ dom) (hk : Nat.beq (lk t) k = true) {ty : FieldType} (hkt : (k = 1 ∧ ty = .int) ∨ (k = 2 ∧ ty = .long) ∨ (k = 3 ∧ ty = .byte) ∨ (k = 4 ∧ ty = .boolean)) : ∃ t0 : Nat, (tyl cT)[t0]? = some (cT t, ty) := by
  have hk := Nat.eq_of_beq_eq_true hk
  have h := (tag_of hin).1
  unfold tagok at h
  rw [hk] at h
  rcases hkt with ⟨rfl, rfl⟩ | ⟨rfl, rfl⟩ | ⟨rfl, rfl⟩ | ⟨rfl, rfl⟩ <;> exact tyl_at h
theorem ce_int {t i k : Nat} (hk : Nat.beq (lk t) k = true) (h1 : k = 1 ∨ k = 3 ∨ k = 4) : ce α cT σ t i = .inl (cT t, ln t i, .inl (gI σ t i)) := by
  have hk := Nat.eq_of_beq_eq_true hk
  unfold ce
  rw [hk]
  rcases h1 with rfl | rfl | rfl <;> rfl
theorem ce_long {t i : Nat} (hk : Nat.beq (lk t) 2 = true) : ce α cT σ t i = .inl (cT t, ln t i, .inr (.inl (gL σ t i))) := by
  have hk := Nat.eq_of_beq_eq_true hk
  unfold ce
  rw [hk]
  rfl
theorem ce_refs {t i : Nat} (hk : Nat.beq (lk t) 5 = true) : ce α cT σ t i = .inl (cT t, ln t i, .inr (.inr (.inr (.inr (fun j => some (α (la t i j).1 (la t i j).2)))))) := by
  have hk := Nat.eq_of_beq_eq_true hk
  unfold ce
  rw [hk]
  rfl
theorem str_lk : lk 494 = 6 := rfl
theorem lk_notStr {t k : Nat} (hk : Nat.beq (lk t) k = true) (h6 : k ≠ 6) : t ≠ 494 := fun q => h6 ((Nat.eq_of_beq_eq_true hk).symm.trans (by rw [q]; exact str_lk))
theorem snd_iald (X : CX p s mi args c α cT D adV scr xs Ln m) (hK : KS p l e R s mi args below meth c cells slots Q α cT D scr xs Ln (maxL m) K z) (hd : decode (mbt m) pc = .ok (.iaload, 1)) {j : Int32} {t i : Nat} {S' : List AV} (hk : Nat.beq (lk t) 1 = true)
    (h : ix j (alen σ t i) (fun k => K (pc + 1) L (.inl (gI σ t i k) :: S') σ) = some z) (hS : ∀ v ∈ (.inl j :: .inr (.inr (t, i)) :: S' : List AV), okv scr v) (hL : ∀ v, some v ∈ L → okv scr v) (hn : L.length = maxL m) (hI : IW α cT D s scr xs Ln σ H locs) (hl : lv_has ls (maxL m) (lvl α 0 L)) : W p l e R s mi args below meth c H locs cells slots Q (F0 mi pc ls ((.inl j :: .inr (.inr (t, i)) :: S' : List AV).map (conc α))) := by
  obtain ⟨hx, hb, -, hown, hts, hKK, -, hsc⟩ := X
  obtain ⟨hj, h⟩ := inb_of h
  have kk := hK _ _ _ _ h (okS_cons trivial (okS_tail (okS_tail hS))) hL hn H locs ls hI hl
  have ho : okr scr (t, i) := hS _ (List.mem_cons_of_mem _ List.mem_cons_self)
  by_cases hts2 : t = 497
  · rcases ho with ho | ⟨ho, -⟩ | ⟨hs, ho⟩
    · exact absurd hts2 (tag_of ho).2.1
    · exact absurd ho (lk_notStr hk (by decide))
    · cases ho
      obtain ⟨hX, hbl, hbA, hLn⟩ := hsc hs
      have hal : alen σ 497 0 = Ln := by
        show (gI σ 497 1 0).toNatClampNeg = Ln
        rw [(hI.2.2.2 hs).2]
        exact nI_clamp hLn
      rw [hal] at hj
      have hlt : j.toNatClampNeg < Ln := Nat.not_le.mp fun q => hj (Or.inr q)
      have kk : W p l e R s mi args below meth c H locs cells slots Q (F0 mi (pc + 1) ls (.int (gI σ 497 0 j.toNatClampNeg) :: S'.map (conc α))) := kk
      rw [(hI.2.2.2 hs).1 _ hlt] at kk
      exact va_sld hx hb hX hbl hbA hI.2.2.1 hj hd kk
  · have hin := okr_dom ho hts2 (lk_notStr hk (by decide))
    obtain ⟨q0, hq0⟩ := dom_at hin
    have hat := wl_at (α := α) (cT := cT) (σ := σ) hq0
    rw [ce_int hk (Or.inl rfl)] at hat
    obtain ⟨t0, ht0⟩ := lk_ty (cT := cT) hin hk (Or.inl ⟨rfl, rfl⟩)
    have hal : alen σ t i = ln t i := by
      unfold alen
      cases hq : Nat.beq t 497
      · rfl
      · exact absurd (Nat.eq_of_beq_eq_true hq) hts2
    rw [hal] at hj
    exact va_iald hx hb hKK.1 hI.1 q0 t0 hat ht0 hj hd kk
theorem snd_bald (X : CX p s mi args c α cT D adV scr xs Ln m) (hK : KS p l e R s mi args below meth c cells slots Q α cT D scr xs Ln (maxL m) K z) (hd : decode (mbt m) pc = .ok (.baload, 1)) {j : Int32} {t i : Nat} {S' : List AV} (hk : (Nat.beq (lk t) 3 || Nat.beq (lk t) 4) = true)
    (h : ix j (ln t i) (fun k => K (pc + 1) L (.inl (gI σ t i k) :: S') σ) = some z) (hS : ∀ v ∈ (.inl j :: .inr (.inr (t, i)) :: S' : List AV), okv scr v) (hL : ∀ v, some v ∈ L → okv scr v) (hn : L.length = maxL m) (hI : IW α cT D s scr xs Ln σ H locs) (hl : lv_has ls (maxL m) (lvl α 0 L)) : W p l e R s mi args below meth c H locs cells slots Q (F0 mi pc ls ((.inl j :: .inr (.inr (t, i)) :: S' : List AV).map (conc α))) := by
  obtain ⟨hx, hb, -, hown, hts, hKK, -, hsc⟩ := X
  obtain ⟨hj, h⟩ := inb_of h
  have kk := hK _ _ _ _ h (okS_cons trivial (okS_tail (okS_tail hS))) hL hn H locs ls hI hl
  have ho : okr scr (t, i) := hS _ (List.mem_cons_of_mem _ List.mem_cons_self)
  rw [Bool.or_eq_true] at hk
  have hns : t ≠ 497 := by
    rintro rfl
    rcases hk with hk | hk
    · exact absurd (Nat.eq_of_beq_eq_true hk) (by decide)
    · exact absurd (Nat.eq_of_beq_eq_true hk) (by decide)
  rcases hk with hk | hk
  · have hin := okr_dom ho hns (lk_notStr hk (by decide))
    obtain ⟨q0, hq0⟩ := dom_at hin
    have hat := wl_at (α := α) (cT := cT) (σ := σ) hq0
    rw [ce_int hk (Or.inr (Or.inl rfl))] at hat
    obtain ⟨t0, ht0⟩ := lk_ty (cT := cT) hin hk (Or.inr (Or.inr (Or.inl ⟨rfl, rfl⟩)))
    exact va_bald hx hb hKK.1 hI.1 q0 t0 hat ht0 hj hd kk
  · have hin := okr_dom ho hns (lk_notStr hk (by decide))
    obtain ⟨q0, hq0⟩ := dom_at hin
    have hat := wl_at (α := α) (cT := cT) (σ := σ) hq0
    rw [ce_int hk (Or.inr (Or.inr rfl))] at hat
    obtain ⟨t0, ht0⟩ := lk_ty (cT := cT) hin hk (Or.inr (Or.inr (Or.inr ⟨rfl, rfl⟩)))
    exact va_zald hx hb hKK.1 hI.1 q0 t0 hat ht0 hj hd kk
theorem lk_notScr {t k : Nat} (hk : Nat.beq (lk t) k = true) (h1 : k ≠ 1) : t ≠ 497 := fun q => h1 ((Nat.eq_of_beq_eq_true hk).symm.trans (by rw [q]; rfl))
theorem snd_lald (X : CX p s mi args c α cT D adV scr xs Ln m) (hK : KS p l e R s mi args below meth c cells slots Q α cT D scr xs Ln (maxL m) K z) (hd : decode (mbt m) pc = .ok (.laload, 1)) {j : Int32} {t i : Nat} {S' : List AV} (hk : Nat.beq (lk t) 2 = true)
    (h : ix j (ln t i) (fun k => K (pc + 1) L (.inr (.inl (gL σ t i k)) :: S') σ) = some z) (hS : ∀ v ∈ (.inl j :: .inr (.inr (t, i)) :: S' : List AV), okv scr v) (hL : ∀ v, some v ∈ L → okv scr v) (hn : L.length = maxL m) (hI : IW α cT D s scr xs Ln σ H locs) (hl : lv_has ls (maxL m) (lvl α 0 L)) : W p l e R s mi args below meth c H locs cells slots Q (F0 mi pc ls ((.inl j :: .inr (.inr (t, i)) :: S' : List AV).map (conc α))) := by
  obtain ⟨hx, hb, -, hown, hts, hKK, -, hsc⟩ := X
  obtain ⟨hj, h⟩ := inb_of h
  have kk := hK _ _ _ _ h (okS_cons trivial (okS_tail (okS_tail hS))) hL hn H locs ls hI hl
  have hin := okr_dom (hS _ (List.mem_cons_of_mem _ List.mem_cons_self)) (lk_notScr hk (by decide)) (lk_notStr hk (by decide))
  obtain ⟨q0, hq0⟩ := dom_at hin
  have hat := wl_at (α := α) (cT := cT) (σ := σ) hq0
  rw [ce_long hk] at hat
  obtain ⟨t0, ht0⟩ := lk_ty (cT := cT) hin hk (Or.inr (Or.inl ⟨rfl, rfl⟩))
  exact va_lald hx hb hKK.1 hI.1 q0 t0 hat ht0 hj hd kk
theorem snd_aald (X : CX p s mi args c α cT D adV scr xs Ln m) (hK : KS p l e R s mi args below meth c cells slots Q α cT D scr xs Ln (maxL m) K z) (hd : decode (mbt m) pc = .ok (.aaload, 1)) {j : Int32} {t i : Nat} {S' : List AV} (hk : Nat.beq (lk t) 5 = true)
    (h : ix j (ln t i) (fun k => K (pc + 1) L (.inr (.inr (la t i k)) :: S') σ) = some z) (hS : ∀ v ∈ (.inl j :: .inr (.inr (t, i)) :: S' : List AV), okv scr v) (hL : ∀ v, some v ∈ L → okv scr v) (hn : L.length = maxL m) (hI : IW α cT D s scr xs Ln σ H locs) (hl : lv_has ls (maxL m) (lvl α 0 L)) : W p l e R s mi args below meth c H locs cells slots Q (F0 mi pc ls ((.inl j :: .inr (.inr (t, i)) :: S' : List AV).map (conc α))) := by
  obtain ⟨hx, hb, -, hown, hts, hKK, -, hsc⟩ := X
  obtain ⟨hj, h⟩ := inb_of h
  have hin := okr_dom (hS _ (List.mem_cons_of_mem _ List.mem_cons_self)) (lk_notScr hk (by decide)) (lk_notStr hk (by decide))
  have hlt : j.toNatClampNeg < ln t i := Nat.not_le.mp fun q => hj (Or.inr q)
  have hrf := List.all_eq_true.mp dom_refs _ hin
  unfold refsok at hrf
  have hk5 : lk (t, i).1 = 5 := Nat.eq_of_beq_eq_true hk
  rw [hk5] at hrf
  have hmem : la t i j.toNatClampNeg ∈ dom := by simpa using List.all_eq_true.mp hrf _ (List.mem_range.mpr hlt)
  have kk := hK _ _ _ _ h (okS_cons (v := .inr (.inr (la t i j.toNatClampNeg))) (Or.inl hmem) (okS_tail (okS_tail hS))) hL hn H locs ls hI hl
  obtain ⟨q0, hq0⟩ := dom_at hin
  have hat := wl_at (α := α) (cT := cT) (σ := σ) hq0
  rw [ce_refs hk] at hat
  have htg := (tag_of hin).1
  unfold tagok at htg
  rw [show lk t = 5 from hk5] at htg
  obtain ⟨⟨t', ty⟩, hq, hd2⟩ := List.any_eq_true.mp htg
  rw [Bool.and_eq_true] at hd2
  have hte : t' = t := of_decide_eq_true hd2.1
  subst hte
  obtain ⟨t0, ht0⟩ := List.getElem?_of_mem (List.mem_map.mpr ⟨_, hq, rfl⟩ : (cT t', ty) ∈ tyl cT)
  exact W.aald (v := .ref (α (la t' i j.toNatClampNeg).1 (la t' i j.toNatClampNeg).2)) (ty := ty) hx hb (hI.1 q0 _ hat) ((hKK.1.2 t0 _ ht0).1 (ln t' i) (fun j => va_rf (some (α (la t' i j).1 (la t' i j).2)))) hd2.2 (fun q => by cases q) (by show ¬ (j < 0 ∨ (arrV _ _ _).slots.size ≤ _); rw [arrV_size]; exact hj) (by show (arrV _ _ _).slots[_]? = _; rw [arrV_read _ _ hlt]; rfl) rfl rfl hd kk
theorem snd_alen (X : CX p s mi args c α cT D adV scr xs Ln m) (hK : KS p l e R s mi args below meth c cells slots Q α cT D scr xs Ln (maxL m) K z) (hd : decode (mbt m) pc = .ok (.arraylength, 1)) {t i : Nat} {S' : List AV} (hk : (Nat.ble 1 (lk t) && Nat.ble (lk t) 5) = true)
    (h : K (pc + 1) L (.inl (Int32.ofNat (alen σ t i)) :: S') σ = some z) (hS : ∀ v ∈ (.inr (.inr (t, i)) :: S' : List AV), okv scr v) (hL : ∀ v, some v ∈ L → okv scr v) (hn : L.length = maxL m) (hI : IW α cT D s scr xs Ln σ H locs) (hl : lv_has ls (maxL m) (lvl α 0 L)) : W p l e R s mi args below meth c H locs cells slots Q (F0 mi pc ls ((.inr (.inr (t, i)) :: S' : List AV).map (conc α))) := by
  obtain ⟨hx, hb, -, hown, hts, hKK, -, hsc⟩ := X
  rw [Bool.and_eq_true] at hk
  have hk1 := Nat.le_of_ble_eq_true hk.1
  have hk2 := Nat.le_of_ble_eq_true hk.2
  have kk := hK _ _ _ _ h (okS_cons trivial (okS_tail hS)) hL hn H locs ls hI hl
  have ho : okr scr (t, i) := hS _ List.mem_cons_self
  rcases ho with hin | ⟨ho, -⟩ | ⟨hs, ho⟩
  · obtain ⟨htg, hns, -⟩ := tag_of hin
    have hal : alen σ t i = ln t i := by
      unfold alen
      cases hq : Nat.beq t 497
      · rfl
      · exact absurd (Nat.eq_of_beq_eq_true hq) hns
    obtain ⟨q0, hq0⟩ := dom_at hin
    have hat := wl_at (α := α) (cT := cT) (σ := σ) hq0
    have hty : ∃ (t0 : Nat) (ty : FieldType), (tyl cT)[t0]? = some (cT t, ty) := by
      unfold tagok at htg
      split at htg
      · next q => omega
      · exact (tyl_at htg).elim fun t0 q => ⟨t0, _, q⟩
      · exact (tyl_at htg).elim fun t0 q => ⟨t0, _, q⟩
      · exact (tyl_at htg).elim fun t0 q => ⟨t0, _, q⟩
      · exact (tyl_at htg).elim fun t0 q => ⟨t0, _, q⟩
      · obtain ⟨⟨t', ty⟩, hq, hd2⟩ := List.any_eq_true.mp htg
        rw [Bool.and_eq_true] at hd2
        have hte : t' = t := of_decide_eq_true hd2.1
        subst hte
        exact (List.getElem?_of_mem (List.mem_map.mpr ⟨_, hq, rfl⟩ : (cT t', ty) ∈ tyl cT)).elim fun t0 q => ⟨t0, ty, q⟩
      · cases htg
    obtain ⟨t0, ty, ht0⟩ := hty
    have hce : ∃ a, ce α cT σ t i = .inl (cT t, ln t i, a) := by
      unfold ce
      split
      · next q => omega
      · exact ⟨_, rfl⟩
      · exact ⟨_, rfl⟩
      · exact ⟨_, rfl⟩
    obtain ⟨a, hce⟩ := hce
    rw [hce] at hat
    exact va_alen (x := (ln t i, a)) hx hb hKK.1 hI.1 q0 t0 hat ht0 (v := Int32.ofNat (alen σ t i)) (by rw [hal]) hd kk
  · rw [show t = 494 from ho, str_lk] at hk2
    omega
  · cases ho
    obtain ⟨hX, hbl, hbA, hLn⟩ := hsc hs
    have hal : alen σ 497 0 = Ln := by
      show (gI σ 497 1 0).toNatClampNeg = Ln
      rw [(hI.2.2.2 hs).2]
      exact nI_clamp hLn
    rw [hal] at kk
    exact va_slen hx hb hX hbl hbA hI.2.2.1 hd kk
theorem snd_iast (X : CX p s mi args c α cT D adV scr xs Ln m) (hK : KS p l e R s mi args below meth c cells slots Q α cT D scr xs Ln (maxL m) K z) (hd : decode (mbt m) pc = .ok (.iastore, 1)) {x j : Int32} {t i : Nat} {S' : List AV} (hk : Nat.beq (lk t) 1 = true) (hns : t ≠ 497)
    (h : ix j (ln t i) (fun k => K (pc + 1) L S' (sI σ t i k x)) = some z) (hS : ∀ v ∈ (.inl x :: .inl j :: .inr (.inr (t, i)) :: S' : List AV), okv scr v) (hL : ∀ v, some v ∈ L → okv scr v) (hn : L.length = maxL m) (hI : IW α cT D s scr xs Ln σ H locs) (hl : lv_has ls (maxL m) (lvl α 0 L)) : W p l e R s mi args below meth c H locs cells slots Q (F0 mi pc ls ((.inl x :: .inl j :: .inr (.inr (t, i)) :: S' : List AV).map (conc α))) := by
  obtain ⟨hx, hb, -, hown, hts, hKK, -, hsc⟩ := X
  obtain ⟨hj, h⟩ := inb_of h
  have hin := okr_dom (hS _ (List.mem_cons_of_mem _ (List.mem_cons_of_mem _ List.mem_cons_self))) hns (lk_notStr hk (by decide))
  obtain ⟨q0, hq0⟩ := dom_at hin
  have hat := wl_at (α := α) (cT := cT) (σ := σ) hq0
  rw [ce_int hk (Or.inl rfl)] at hat
  obtain ⟨t0, ht0⟩ := lk_ty (cT := cT) hin hk (Or.inl ⟨rfl, rfl⟩)
  refine va_iast hx hb hKK.1 hI.1 hI.2.1 hI.2.2.1 q0 t0 hat ht0 hj hd (fun H1 locs1 e1 e2 e3 => ?_)
  have hset : (wl α cT σ).set q0 (α t i, .inl (cT t, ln t i, .inl (upd (gI σ t i) j.toNatClampNeg x))) = wl α cT (sI σ t i j.toNatClampNeg x) := wl_set hq0 (by rw [ce_int hk (Or.inl rfl), upd_sI]) ce_sI
  rw [hset] at e1 e2
  exact hK _ _ _ _ h (okS_tail (okS_tail (okS_tail hS))) hL hn H1 locs1 ls (IW_sI hI hns e1 e2 e3) hl
theorem snd_bast3 (X : CX p s mi args c α cT D adV scr xs Ln m) (hK : KS p l e R s mi args below meth c cells slots Q α cT D scr xs Ln (maxL m) K z) (hd : decode (mbt m) pc = .ok (.bastore, 1)) {x j : Int32} {t i : Nat} {S' : List AV} (hk : Nat.beq (lk t) 3 = true)
    (h : ix j (ln t i) (fun k => K (pc + 1) L S' (sI σ t i k x.toInt8.toInt32)) = some z) (hS : ∀ v ∈ (.inl x :: .inl j :: .inr (.inr (t, i)) :: S' : List AV), okv scr v) (hL : ∀ v, some v ∈ L → okv scr v) (hn : L.length = maxL m) (hI : IW α cT D s scr xs Ln σ H locs) (hl : lv_has ls (maxL m) (lvl α 0 L)) : W p l e R s mi args below meth c H locs cells slots Q (F0 mi pc ls ((.inl x :: .inl j :: .inr (.inr (t, i)) :: S' : List AV).map (conc α))) := by
  obtain ⟨hx, hb, -, hown, hts, hKK, -, hsc⟩ := X
  obtain ⟨hj, h⟩ := inb_of h
  have hns := lk_notScr hk (by decide)
  have hin := okr_dom (hS _ (List.mem_cons_of_mem _ (List.mem_cons_of_mem _ List.mem_cons_self))) hns (lk_notStr hk (by decide))
  obtain ⟨q0, hq0⟩ := dom_at hin
  have hat := wl_at (α := α) (cT := cT) (σ := σ) hq0
  rw [ce_int hk (Or.inr (Or.inl rfl))] at hat
  obtain ⟨t0, ht0⟩ := lk_ty (cT := cT) hin hk (Or.inr (Or.inr (Or.inl ⟨rfl, rfl⟩)))
  refine va_bast hx hb hKK.1 hI.1 hI.2.1 hI.2.2.1 q0 t0 hat ht0 hj hd (fun H1 locs1 e1 e2 e3 => ?_)
  have hset : (wl α cT σ).set q0 (α t i, .inl (cT t, ln t i, .inl (upd (gI σ t i) j.toNatClampNeg (vp_nar .byte x)))) = wl α cT (sI σ t i j.toNatClampNeg x.toInt8.toInt32) := wl_set hq0 (by rw [ce_int hk (Or.inr (Or.inl rfl)), vp_nar_byte, upd_sI]) ce_sI
  rw [hset] at e1 e2
  exact hK _ _ _ _ h (okS_tail (okS_tail (okS_tail hS))) hL hn H1 locs1 ls (IW_sI hI hns e1 e2 e3) hl
theorem snd_bast4 (X : CX p s mi args c α cT D adV scr xs Ln m) (hK : KS p l e R s mi args below meth c cells slots Q α cT D scr xs Ln (maxL m) K z) (hd : decode (mbt m) pc = .ok (.bastore, 1)) {x j : Int32} {t i : Nat} {S' : List AV} (hk : Nat.beq (lk t) 4 = true) (h01 : x = 0 ∨ x = 1)
    (h : ix j (ln t i) (fun k => K (pc + 1) L S' (sI σ t i k x)) = some z) (hS : ∀ v ∈ (.inl x :: .inl j :: .inr (.inr (t, i)) :: S' : List AV), okv scr v) (hL : ∀ v, some v ∈ L → okv scr v) (hn : L.length = maxL m) (hI : IW α cT D s scr xs Ln σ H locs) (hl : lv_has ls (maxL m) (lvl α 0 L)) : W p l e R s mi args below meth c H locs cells slots Q (F0 mi pc ls ((.inl x :: .inl j :: .inr (.inr (t, i)) :: S' : List AV).map (conc α))) := by
  obtain ⟨hx, hb, -, hown, hts, hKK, -, hsc⟩ := X
  obtain ⟨hj, h⟩ := inb_of h
  have hns := lk_notScr hk (by decide)
  have hin := okr_dom (hS _ (List.mem_cons_of_mem _ (List.mem_cons_of_mem _ List.mem_cons_self))) hns (lk_notStr hk (by decide))
  obtain ⟨q0, hq0⟩ := dom_at hin
  have hat := wl_at (α := α) (cT := cT) (σ := σ) hq0
  rw [ce_int hk (Or.inr (Or.inr rfl))] at hat
  obtain ⟨t0, ht0⟩ := lk_ty (cT := cT) hin hk (Or.inr (Or.inr (Or.inr ⟨rfl, rfl⟩)))
  refine va_zast hx hb hKK.1 hI.1 hI.2.1 hI.2.2.1 q0 t0 hat ht0 hj hd (fun H1 locs1 e1 e2 e3 => ?_)
  have hset : (wl α cT σ).set q0 (α t i, .inl (cT t, ln t i, .inl (upd (gI σ t i) j.toNatClampNeg (vp_nar .boolean x)))) = wl α cT (sI σ t i j.toNatClampNeg x) := wl_set hq0 (by rw [ce_int hk (Or.inr (Or.inr rfl)), (bool01 h01).2.2, upd_sI]) ce_sI
  rw [hset] at e1 e2
  exact hK _ _ _ _ h (okS_tail (okS_tail (okS_tail hS))) hL hn H1 locs1 ls (IW_sI hI hns e1 e2 e3) hl
theorem snd_last (X : CX p s mi args c α cT D adV scr xs Ln m) (hK : KS p l e R s mi args below meth c cells slots Q α cT D scr xs Ln (maxL m) K z) (hd : decode (mbt m) pc = .ok (.lastore, 1)) {x : Int64} {j : Int32} {t i : Nat} {S' : List AV} (hk : Nat.beq (lk t) 2 = true)
    (h : ix j (ln t i) (fun k => K (pc + 1) L S' (sL σ t i k x)) = some z) (hS : ∀ v ∈ (.inr (.inl x) :: .inl j :: .inr (.inr (t, i)) :: S' : List AV), okv scr v) (hL : ∀ v, some v ∈ L → okv scr v) (hn : L.length = maxL m) (hI : IW α cT D s scr xs Ln σ H locs) (hl : lv_has ls (maxL m) (lvl α 0 L)) : W p l e R s mi args below meth c H locs cells slots Q (F0 mi pc ls ((.inr (.inl x) :: .inl j :: .inr (.inr (t, i)) :: S' : List AV).map (conc α))) := by
  obtain ⟨hx, hb, -, hown, hts, hKK, -, hsc⟩ := X
  obtain ⟨hj, h⟩ := inb_of h
  have hns := lk_notScr hk (by decide)
  have hin := okr_dom (hS _ (List.mem_cons_of_mem _ (List.mem_cons_of_mem _ List.mem_cons_self))) hns (lk_notStr hk (by decide))
  obtain ⟨q0, hq0⟩ := dom_at hin
  have hat := wl_at (α := α) (cT := cT) (σ := σ) hq0
  rw [ce_long hk] at hat
  obtain ⟨t0, ht0⟩ := lk_ty (cT := cT) hin hk (Or.inr (Or.inl ⟨rfl, rfl⟩))
  refine va_last hx hb hKK.1 hI.1 hI.2.1 hI.2.2.1 q0 t0 hat ht0 hj hd (fun H1 locs1 e1 e2 e3 => ?_)
  have hset : (wl α cT σ).set q0 (α t i, .inl (cT t, ln t i, .inr (.inl (vp_updL (gL σ t i) j.toNatClampNeg x)))) = wl α cT (sL σ t i j.toNatClampNeg x) := wl_set hq0 (by rw [ce_long hk, upd_sL]) ce_sL
  rw [hset] at e1 e2
  exact hK _ _ _ _ h (okS_tail (okS_tail (okS_tail hS))) hL hn H1 locs1 ls (IW_sL hI e1 e2 e3) hl
end SND4
