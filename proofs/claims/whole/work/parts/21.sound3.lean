section SND3
variable {p : Program} {l : Launch} {e : Env} {R : Room} {s : State} {mi : MethodId} {args : Array Value} {below : List Frame} {meth : Method} {c : Code} {cells slots : Nat} {Q : State → Prop} {α : Nat → Nat → Nat} {cT : Nat → ClassId} {D : va_G} {adV : Nat → Nat} {scr : Bool} {xs : Nat → Int32} {Ln m : Nat} {K : AK} {z : AR}
variable {pc : Nat} {L : AL} {S : List AV} {σ : St} {H : Heap} {locs : List Loc} {ls : Array Slot}
theorem ce_obj {cc i : Nat} (hc : cc < 13) : ce α cT σ (8 * cc) i = .inr (cc, fvs α σ (8 * cc) i) := by
  obtain ⟨h1, h2, -⟩ := tag_obj hc
  unfold ce
  rw [h1]
  show Sum.inr (8 * cc / 8, _) = _
  rw [h2]
theorem snd_gtF (X : CX p s mi args c α cT D adV scr xs Ln m) (hK : KS p l e R s mi args below meth c cells slots Q α cT D scr xs Ln (maxL m) K z) {idx : Nat} {ys : List Nat} (hd : decode (mbt m) pc = .ok (.getfield idx, 3)) (hok : okfl m idx ys false = true)
    (h : gtF K (pc + 3) L S σ ys = some z) (hS : ∀ v ∈ S, okv scr v) (hL : ∀ v, some v ∈ L → okv scr v) (hn : L.length = maxL m) (hI : IW α cT D s scr xs Ln σ H locs) (hl : lv_has ls (maxL m) (lvl α 0 L)) : W p l e R s mi args below meth c H locs cells slots Q (F0 mi pc ls (S.map (conc α))) := by
  obtain ⟨hx, hb, -, hown, hts, hKK, -, -⟩ := X
  unfold gtF at h
  split at h
  · next t i S' c1 k d =>
    unfold okfl at hok
    rw [Bool.and_eq_true] at hok
    obtain ⟨hfl, hdd⟩ := hok
    have hdd := of_decide_eq_true hdd
    obtain ⟨hc, hk, hlk⟩ := fl_at hfl
    cases hbq : Nat.beq t (8 * c1)
    · rw [hbq] at h; cases h
    · rw [hbq] at h
      have ht := Nat.eq_of_beq_eq_true hbq
      subst ht
      obtain ⟨g1, g2, g3, g4⟩ := tag_obj hc
      have hin : (8 * c1, i) ∈ dom := okr_dom (hS _ List.mem_cons_self) g3 g4
      obtain ⟨q0, hq0⟩ := dom_at hin
      have htg := (tag_of hin).1
      unfold tagok at htg
      rw [g1] at htg
      have htg := of_decide_eq_true htg
      rw [g2] at htg
      have hat := wl_at (α := α) (cT := cT) (σ := σ) hq0
      rw [ce_obj hc] at hat
      have hfv := fvs_at (α := α) (σ := σ) (t := 8 * c1) (i := i) (k := k) (by rw [g2, htg.2.2]; exact hk)
      rw [g2] at hfv
      have kk : ∀ v : AV, okv scr v → K (pc + 3) L (v :: S') σ = some z → fv α σ (8 * c1) i k (fkd c1 k) = conc α v → W p l e R s mi args below meth c H locs cells slots Q (F0 mi pc ls ((Sum.inr (Sum.inr (8 * c1, i)) :: S').map (conc α))) := by
        intro v hv hz hf
        rw [hf] at hfv
        exact va_get (ci := c1) (v := conc α v) hx hb hts (uw_in hc) hown hKK.1 hI.1 q0 hat (Tc_at hc) k hk (hts _ hlk) (fun _ h9 => h9) hfv hd (hK _ _ _ _ hz (okS_cons hv (okS_tail hS)) hL hn H locs ls hI hl)
      simp only [cond_true] at h
      split at h
      · refine kk (.inr (.inl (gL σ (8 * c1) i k))) trivial h ?_
        unfold fv
        rw [hdd.1]
        rfl
      · next d' hd1 =>
        refine kk (.inl (gI σ (8 * c1) i k)) trivial h ?_
        unfold fv
        split
        · next q => exact (hd1 (hdd.1.symm.trans q)).elim
        · next q => exact absurd (hdd.1.symm.trans q) hdd.2.1
        · rfl
  · next t i S' c1 k t' f b =>
    unfold okfl at hok
    rw [Bool.and_eq_true] at hok
    obtain ⟨hfl, hdd⟩ := hok
    have hdd := of_decide_eq_true hdd
    obtain ⟨hc, hk, hlk⟩ := fl_at hfl
    cases hbq : Nat.beq t (8 * c1)
    · rw [hbq] at h; cases h
    · rw [hbq] at h
      have ht := Nat.eq_of_beq_eq_true hbq
      subst ht
      obtain ⟨g1, g2, g3, g4⟩ := tag_obj hc
      have hin : (8 * c1, i) ∈ dom := okr_dom (hS _ List.mem_cons_self) g3 g4
      obtain ⟨q0, hq0⟩ := dom_at hin
      have htg := (tag_of hin).1
      unfold tagok at htg
      rw [g1] at htg
      have htg := of_decide_eq_true htg
      rw [g2] at htg
      have hat := wl_at (α := α) (cT := cT) (σ := σ) hq0
      rw [ce_obj hc] at hat
      have hfv := fvs_at (α := α) (σ := σ) (t := 8 * c1) (i := i) (k := k) (by rw [g2, htg.2.2]; exact hk)
      rw [g2] at hfv
      have hfe : fv α σ (8 * c1) i k (fkd c1 k) = conc α (.inr (.inr (t', lfi f b i))) := by
        unfold fv
        rw [hdd.1]
        rfl
      rw [hfe] at hfv
      have hrf := List.all_eq_true.mp dom_refs _ hin
      unfold refsok at hrf
      rw [g1] at hrf
      have hrf := List.all_eq_true.mp hrf k (List.mem_range.mpr (by show k < (fds.getD (8 * c1 / 8) []).length; rw [g2, htg.2.2]; exact hk))
      have hrf : (match fkd (8 * c1 / 8) k with
        | (2, t', f, b) => dom.contains (t', lfi f b i)
        | _ => true) = true := hrf
      rw [g2, hdd.1] at hrf
      have hmem : (t', lfi f b i) ∈ dom := by simpa using hrf
      exact va_get (ci := c1) (v := conc α (.inr (.inr (t', lfi f b i)))) hx hb hts (uw_in hc) hown hKK.1 hI.1 q0 hat (Tc_at hc) k hk (hts _ hlk) (fun _ h9 => h9) hfv hd (hK _ _ _ _ h (okS_cons (Or.inl hmem) (okS_tail hS)) hL hn H locs ls hI hl)
  · cases h
theorem IW_sI {t i k : Nat} {x : Int32} {H1 : Heap} {locs1 : List Loc} (hI : IW α cT D s scr xs Ln σ H locs) (ht : t ≠ 497) (h1 : va_P D vwCl (wl α cT (sI σ t i k x)) H1) (h2 : va_D (AA α s.heap.size) (wl α cT (sI σ t i k x))) (h3 : va_S (AA α s.heap.size) s.heap H1 locs1) : IW α cT D s scr xs Ln (sI σ t i k x) H1 locs1 :=
  ⟨h1, h2, h3, fun hs => ⟨fun j hj => by rw [gI_sI, if_neg (fun z => ht z.1.symm)]; exact (hI.2.2.2 hs).1 j hj, by rw [gI_sI, if_neg (fun z => ht z.1.symm)]; exact (hI.2.2.2 hs).2⟩⟩
theorem IW_sL {t i k : Nat} {x : Int64} {H1 : Heap} {locs1 : List Loc} (hI : IW α cT D s scr xs Ln σ H locs) (h1 : va_P D vwCl (wl α cT (sL σ t i k x)) H1) (h2 : va_D (AA α s.heap.size) (wl α cT (sL σ t i k x))) (h3 : va_S (AA α s.heap.size) s.heap H1 locs1) : IW α cT D s scr xs Ln (sL σ t i k x) H1 locs1 :=
  ⟨h1, h2, h3, fun hs => ⟨fun j hj => (hI.2.2.2 hs).1 j hj, (hI.2.2.2 hs).2⟩⟩
theorem bool01 {x : Int32} (h : x = 0 ∨ x = 1) : narrow .boolean (.int x) = .int x ∧ fits .boolean (.int x) = true ∧ vp_nar .boolean x = x := by
  rcases h with rfl | rfl
  · exact ⟨by decide, by decide, by decide⟩
  · exact ⟨by decide, by decide, by decide⟩
theorem snd_ptF (X : CX p s mi args c α cT D adV scr xs Ln m) (hK : KS p l e R s mi args below meth c cells slots Q α cT D scr xs Ln (maxL m) K z) {idx : Nat} {ys : List Nat} (hd : decode (mbt m) pc = .ok (.putfield idx, 3)) (hok : okfl m idx ys true = true)
    (h : ptF K (pc + 3) L S σ ys = some z) (hS : ∀ v ∈ S, okv scr v) (hL : ∀ v, some v ∈ L → okv scr v) (hn : L.length = maxL m) (hI : IW α cT D s scr xs Ln σ H locs) (hl : lv_has ls (maxL m) (lvl α 0 L)) : W p l e R s mi args below meth c H locs cells slots Q (F0 mi pc ls (S.map (conc α))) := by
  obtain ⟨hx, hb, -, hown, hts, hKK, -, -⟩ := X
  unfold ptF at h
  split at h
  · next x t i S' c1 k d =>
    unfold okfl at hok
    rw [Bool.and_eq_true] at hok
    obtain ⟨hfl, hdd⟩ := hok
    have hdd := of_decide_eq_true hdd
    obtain ⟨hc, hk, hlk⟩ := fl_at hfl
    cases hbq : Nat.beq t (8 * c1)
    · rw [hbq] at h; cases h
    · rw [hbq] at h
      have ht := Nat.eq_of_beq_eq_true hbq
      subst ht
      obtain ⟨g1, g2, g3, g4⟩ := tag_obj hc
      have hin : (8 * c1, i) ∈ dom := okr_dom (hS _ (List.mem_cons_of_mem _ List.mem_cons_self)) g3 g4
      obtain ⟨q0, hq0⟩ := dom_at hin
      have htg := (tag_of hin).1
      unfold tagok at htg
      rw [g1] at htg
      have htg := of_decide_eq_true htg
      rw [g2] at htg
      have hat := wl_at (α := α) (cT := cT) (σ := σ) hq0
      rw [ce_obj hc] at hat
      obtain ⟨ty0, hty, hnm⟩ := Tc_ty hc
      have hfk := fk_at hc hk
      have hkl : k < (fvs α σ (8 * c1) i).length := by rw [fvs_len, g2, htg.2.2]; exact hk
      have go : ∀ ty : FieldType, parseFieldDescriptor ((Tc c1).2.1 k).2.2.1 = some ty → ((Tc c1).2.1 k).2.2.2 = false → narrow ty (.int x) = .int x → fits ty (.int x) = true → (fkd c1 k).1 ≠ 1 ∧ (fkd c1 k).1 ≠ 2 → K (pc + 3) L S' (sI σ (8 * c1) i k x) = some z → W p l e R s mi args below meth c H locs cells slots Q (F0 mi pc ls ((Sum.inl x :: Sum.inr (Sum.inr (8 * c1, i)) :: S').map (conc α))) := by
        intro ty h1 h2 h3 h4 h5 hz
        refine va_put (ci := c1) (v := .int x) (ty := ty) hx hb hts (uw_in hc) ty0 hty hnm hown hKK.1 hI.1 hI.2.1 hI.2.2.1 q0 hat (Tc_at hc) k hk (hts _ hlk) (fun _ h9 => h9) h2 h1 h3 h4 hkl hd (fun H1 locs1 e1 e2 e3 => ?_)
        have hset : (wl α cT σ).set q0 (α (8 * c1) i, .inr (c1, (fvs α σ (8 * c1) i).set k (.int x))) = wl α cT (sI σ (8 * c1) i k x) := wl_set hq0 (by rw [ce_obj hc, fvs_setI (by rw [g2]; exact h5)]) ce_sI
        rw [hset] at e1 e2
        exact hK _ _ _ _ hz (okS_tail (okS_tail hS)) hL hn H1 locs1 ls (IW_sI hI g3 e1 e2 e3) hl
      simp only [cond_true] at h
      unfold fkok at hfk
      split at h
      · rw [hdd.1] at hfk
        have hfk := of_decide_eq_true hfk
        exact go .int hfk.1 hfk.2 rfl rfl (by rw [hdd.1]; decide) h
      · rw [hdd.1] at hfk
        have hfk := of_decide_eq_true hfk
        split at h
        · next h01 => exact go .boolean hfk.1 hfk.2 (bool01 h01).1 (bool01 h01).2.1 (by rw [hdd.1]; decide) h
        · cases h
      · cases h
  · next x t i S' c1 k d =>
    unfold okfl at hok
    rw [Bool.and_eq_true] at hok
    obtain ⟨hfl, hdd⟩ := hok
    have hdd := of_decide_eq_true hdd
    obtain ⟨hc, hk, hlk⟩ := fl_at hfl
    cases hbq : Nat.beq t (8 * c1)
    · rw [hbq] at h; cases h
    · rw [hbq] at h
      cases hb1 : Nat.beq d 1
      · rw [hb1] at h; cases h
      · rw [hb1] at h
        have hd1 := Nat.eq_of_beq_eq_true hb1
        subst hd1
        have ht := Nat.eq_of_beq_eq_true hbq
        subst ht
        obtain ⟨g1, g2, g3, g4⟩ := tag_obj hc
        have hin : (8 * c1, i) ∈ dom := okr_dom (hS _ (List.mem_cons_of_mem _ List.mem_cons_self)) g3 g4
        obtain ⟨q0, hq0⟩ := dom_at hin
        have htg := (tag_of hin).1
        unfold tagok at htg
        rw [g1] at htg
        have htg := of_decide_eq_true htg
        rw [g2] at htg
        have hat := wl_at (α := α) (cT := cT) (σ := σ) hq0
        rw [ce_obj hc] at hat
        obtain ⟨ty0, hty, hnm⟩ := Tc_ty hc
        have hfk := fk_at hc hk
        have hkl : k < (fvs α σ (8 * c1) i).length := by rw [fvs_len, g2, htg.2.2]; exact hk
        unfold fkok at hfk
        rw [hdd.1] at hfk
        have hfk := of_decide_eq_true hfk
        refine va_put (ci := c1) (v := .long x) (ty := .long) hx hb hts (uw_in hc) ty0 hty hnm hown hKK.1 hI.1 hI.2.1 hI.2.2.1 q0 hat (Tc_at hc) k hk (hts _ hlk) (fun _ h9 => h9) hfk.2 hfk.1 rfl rfl hkl hd (fun H1 locs1 e1 e2 e3 => ?_)
        have hset : (wl α cT σ).set q0 (α (8 * c1) i, .inr (c1, (fvs α σ (8 * c1) i).set k (.long x))) = wl α cT (sL σ (8 * c1) i k x) := wl_set hq0 (by rw [ce_obj hc, fvs_setL (by rw [g2]; exact hdd.1)]) ce_sL
        rw [hset] at e1 e2
        exact hK _ _ _ _ h (okS_tail (okS_tail hS)) hL hn H1 locs1 ls (IW_sL hI e1 e2 e3) hl
  · cases h
end SND3
