/-! arithmetic, branches, constants -/
section SND2
variable {p : Program} {l : Launch} {e : Env} {R : Room} {s : State} {mi : MethodId} {args : Array Value} {below : List Frame} {meth : Method} {c : Code} {cells slots : Nat} {Q : State → Prop} {α : Nat → Nat → Nat} {cT : Nat → ClassId} {D : va_G} {adV : Nat → Nat} {scr : Bool} {xs : Nat → Int32} {Ln m : Nat} {K : AK} {z : AR}
variable {pc : Nat} {L : AL} {S : List AV} {σ : St} {H : Heap} {locs : List Loc} {ls : Array Slot}
theorem snd_biI (hK : KS p l e R s mi args below meth c cells slots Q α cT D scr xs Ln (maxL m) K z) {f : Int32 → Int32 → Int32}
    (hop : ∀ (x y : Int32) (rest : List Value), W p l e R s mi args below meth c H locs cells slots Q (F0 mi (pc + 1) ls (.int (f x y) :: rest)) → W p l e R s mi args below meth c H locs cells slots Q (F0 mi pc ls (.int y :: .int x :: rest)))
    (h : biI K (pc + 1) L S σ f = some z) (hS : ∀ v ∈ S, okv scr v) (hL : ∀ v, some v ∈ L → okv scr v) (hn : L.length = maxL m) (hI : IW α cT D s scr xs Ln σ H locs) (hl : lv_has ls (maxL m) (lvl α 0 L)) : W p l e R s mi args below meth c H locs cells slots Q (F0 mi pc ls (S.map (conc α))) := by
  unfold biI at h
  split at h
  · exact hop _ _ _ (hK _ _ _ _ h (okS_cons trivial (okS_tail (okS_tail hS))) hL hn H locs ls hI hl)
  · cases h
theorem snd_biL (hK : KS p l e R s mi args below meth c cells slots Q α cT D scr xs Ln (maxL m) K z) {f : Int64 → Int64 → Int64}
    (hop : ∀ (x y : Int64) (rest : List Value), W p l e R s mi args below meth c H locs cells slots Q (F0 mi (pc + 1) ls (.long (f x y) :: rest)) → W p l e R s mi args below meth c H locs cells slots Q (F0 mi pc ls (.long y :: .long x :: rest)))
    (h : biL K (pc + 1) L S σ f = some z) (hS : ∀ v ∈ S, okv scr v) (hL : ∀ v, some v ∈ L → okv scr v) (hn : L.length = maxL m) (hI : IW α cT D s scr xs Ln σ H locs) (hl : lv_has ls (maxL m) (lvl α 0 L)) : W p l e R s mi args below meth c H locs cells slots Q (F0 mi pc ls (S.map (conc α))) := by
  unfold biL at h
  split at h
  · exact hop _ _ _ (hK _ _ _ _ h (okS_cons trivial (okS_tail (okS_tail hS))) hL hn H locs ls hI hl)
  · cases h
theorem snd_dvI (hK : KS p l e R s mi args below meth c cells slots Q α cT D scr xs Ln (maxL m) K z) {f : Int32 → Int32 → Int32}
    (hop : ∀ (x y : Int32) (rest : List Value), ¬ y = 0 → W p l e R s mi args below meth c H locs cells slots Q (F0 mi (pc + 1) ls (.int (f x y) :: rest)) → W p l e R s mi args below meth c H locs cells slots Q (F0 mi pc ls (.int y :: .int x :: rest)))
    (h : dvI K (pc + 1) L S σ f = some z) (hS : ∀ v ∈ S, okv scr v) (hL : ∀ v, some v ∈ L → okv scr v) (hn : L.length = maxL m) (hI : IW α cT D s scr xs Ln σ H locs) (hl : lv_has ls (maxL m) (lvl α 0 L)) : W p l e R s mi args below meth c H locs cells slots Q (F0 mi pc ls (S.map (conc α))) := by
  unfold dvI at h
  split at h
  · split at h
    · cases h
    · next hy => exact hop _ _ _ hy (hK _ _ _ _ h (okS_cons trivial (okS_tail (okS_tail hS))) hL hn H locs ls hI hl)
  · cases h
theorem snd_dvL (hK : KS p l e R s mi args below meth c cells slots Q α cT D scr xs Ln (maxL m) K z) {f : Int64 → Int64 → Int64}
    (hop : ∀ (x y : Int64) (rest : List Value), ¬ y = 0 → W p l e R s mi args below meth c H locs cells slots Q (F0 mi (pc + 1) ls (.long (f x y) :: rest)) → W p l e R s mi args below meth c H locs cells slots Q (F0 mi pc ls (.long y :: .long x :: rest)))
    (h : dvL K (pc + 1) L S σ f = some z) (hS : ∀ v ∈ S, okv scr v) (hL : ∀ v, some v ∈ L → okv scr v) (hn : L.length = maxL m) (hI : IW α cT D s scr xs Ln σ H locs) (hl : lv_has ls (maxL m) (lvl α 0 L)) : W p l e R s mi args below meth c H locs cells slots Q (F0 mi pc ls (S.map (conc α))) := by
  unfold dvL at h
  split at h
  · split at h
    · cases h
    · next hy => exact hop _ _ _ hy (hK _ _ _ _ h (okS_cons trivial (okS_tail (okS_tail hS))) hL hn H locs ls hI hl)
  · cases h
theorem snd_br1 (hx : p.tables.exec = Jvm.exec) (hb : c.code = mbt m) (hK : KS p l e R s mi args below meth c cells slots Q α cT D scr xs Ln (maxL m) K z) {cd : ClassFile.Cond} {off : Int} {t : Nat} (hd : decode (mbt m) pc = .ok (.ifCond cd off, 3)) (ht : (pc : Int) + off = (t : Int))
    (h : br1 K (pc + 3) t L S σ cd = some z) (hS : ∀ v ∈ S, okv scr v) (hL : ∀ v, some v ∈ L → okv scr v) (hn : L.length = maxL m) (hI : IW α cT D s scr xs Ln σ H locs) (hl : lv_has ls (maxL m) (lvl α 0 L)) : W p l e R s mi args below meth c H locs cells slots Q (F0 mi pc ls (S.map (conc α))) := by
  unfold br1 at h
  split at h
  · next x S' =>
    have kk : ∀ pc', K pc' L S' σ = some z → W p l e R s mi args below meth c H locs cells slots Q (F0 mi pc' ls (S'.map (conc α))) := fun pc' h' => hK _ _ _ _ h' (okS_tail hS) hL hn H locs ls hI hl
    split at h
    · refine lv_if_eq hx hb hd ht (fun q => kk _ ?_) (fun q => kk _ ?_)
      · rw [if_pos q] at h; exact h
      · rw [if_neg q] at h; exact h
    · refine lv_if_ne hx hb hd ht (fun q => kk _ ?_) (fun q => kk _ ?_)
      · rw [if_neg q] at h; exact h
      · rw [if_pos q] at h; exact h
    · refine lv_if_lt hx hb hd ht (fun q => kk _ ?_) (fun q => kk _ ?_)
      · rw [if_pos q] at h; exact h
      · rw [if_neg q] at h; exact h
    · refine lv_if_ge hx hb hd ht (fun q => kk _ ?_) (fun q => kk _ ?_)
      · rw [if_neg (Int32.not_lt.mpr q)] at h; exact h
      · rw [if_pos (Int32.not_le.mp q)] at h; exact h
    · refine lv_if_gt hx hb hd ht (fun q => kk _ ?_) (fun q => kk _ ?_)
      · rw [if_neg (Int32.not_le.mpr q)] at h; exact h
      · rw [if_pos (Int32.not_lt.mp q)] at h; exact h
    · refine lv_if_le hx hb hd ht (fun q => kk _ ?_) (fun q => kk _ ?_)
      · rw [if_pos q] at h; exact h
      · rw [if_neg q] at h; exact h
  · cases h
theorem snd_br2 (hx : p.tables.exec = Jvm.exec) (hb : c.code = mbt m) (hK : KS p l e R s mi args below meth c cells slots Q α cT D scr xs Ln (maxL m) K z) {cd : ClassFile.Cond} {off : Int} {t : Nat} (hd : decode (mbt m) pc = .ok (.if_icmp cd off, 3)) (ht : (pc : Int) + off = (t : Int))
    (h : br2 K (pc + 3) t L S σ cd = some z) (hS : ∀ v ∈ S, okv scr v) (hL : ∀ v, some v ∈ L → okv scr v) (hn : L.length = maxL m) (hI : IW α cT D s scr xs Ln σ H locs) (hl : lv_has ls (maxL m) (lvl α 0 L)) : W p l e R s mi args below meth c H locs cells slots Q (F0 mi pc ls (S.map (conc α))) := by
  unfold br2 at h
  split at h
  · next y x S' =>
    have kk : ∀ pc', K pc' L S' σ = some z → W p l e R s mi args below meth c H locs cells slots Q (F0 mi pc' ls (S'.map (conc α))) := fun pc' h' => hK _ _ _ _ h' (okS_tail (okS_tail hS)) hL hn H locs ls hI hl
    split at h
    · refine lv_icmp_eq hx hb hd ht (fun q => kk _ ?_) (fun q => kk _ ?_)
      · rw [if_pos q] at h; exact h
      · rw [if_neg q] at h; exact h
    · refine lv_icmp_ne hx hb hd ht (fun q => kk _ ?_) (fun q => kk _ ?_)
      · rw [if_neg q] at h; exact h
      · rw [if_pos q] at h; exact h
    · refine lv_icmp_lt hx hb hd ht (fun q => kk _ ?_) (fun q => kk _ ?_)
      · rw [if_pos q] at h; exact h
      · rw [if_neg q] at h; exact h
    · refine lv_icmp_ge hx hb hd ht (fun q => kk _ ?_) (fun q => kk _ ?_)
      · rw [if_neg (Int32.not_lt.mpr q)] at h; exact h
      · rw [if_pos (Int32.not_le.mp q)] at h; exact h
    · refine lv_icmp_gt hx hb hd ht (fun q => kk _ ?_) (fun q => kk _ ?_)
      · rw [if_neg (Int32.not_le.mpr q)] at h; exact h
      · rw [if_pos (Int32.not_lt.mp q)] at h; exact h
    · refine lv_icmp_le hx hb hd ht (fun q => kk _ ?_) (fun q => kk _ ?_)
      · rw [if_pos q] at h; exact h
      · rw [if_neg q] at h; exact h
  · cases h
/-- the tables of types -/
theorem tyl_at {t : Nat} {ty : FieldType} (h : atg.any (fun e => decide (e = (t, ty))) = true) : ∃ t0 : Nat, (tyl cT)[t0]? = some (cT t, ty) := by
  obtain ⟨q, hq, hd⟩ := List.any_eq_true.mp h
  have hd := of_decide_eq_true hd
  subst hd
  exact List.getElem?_of_mem (List.mem_map.mpr ⟨_, hq, rfl⟩)
theorem tag_of {t i : Nat} (h : (t, i) ∈ dom) : tagok t = true ∧ t ≠ 497 ∧ t ≠ 494 := by
  have h1 := List.all_eq_true.mp dom_tags _ h
  simp only [Bool.and_eq_true, Bool.not_eq_true'] at h1
  refine ⟨h1.1.1, fun q => ?_, fun q => ?_⟩
  · have h2 := h1.1.2; rw [q] at h2; simp at h2
  · have h2 := h1.2; rw [q] at h2; simp at h2
theorem okr_dom {t i : Nat} (h : okr scr (t, i)) (h1 : t ≠ 497) (h2 : t ≠ 494) : (t, i) ∈ dom := by
  rcases h with h | ⟨h, -⟩ | ⟨-, h⟩
  · exact h
  · exact absurd h h2
  · cases h; exact absurd rfl h1
theorem inb_of {j : Int32} {n : Nat} {k : Nat → Option AR} (h : ix j n k = some z) : vp_in j n ∧ k j.toNatClampNeg = some z := by
  unfold ix at h
  split at h
  · cases h
  · next hj => exact ⟨hj, h⟩
end SND2
