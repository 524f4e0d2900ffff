/-! THE MAKING: calls, and the whole machine -/
section MKR
variable {p : Program} {l : Launch} {e : Env} {R : Room} {s : State} {mi : MethodId} {args : Array Value} {below : List Frame} {meth : Method} {c : Code} {Q : State → Prop} {b0 : Nat} {cM : Nat → ClassId} {D : va_G} {ci mc ms l0 d : Nat} {K : MK} {z : MW}
variable {pc cells n : Nat} {L : AL} {S : List AV} {w : MW} {H : Heap} {locs : List Loc} {ls : Array Slot}
theorem run_K {w' : MW} {rest st0 : List Value} {a : Array Value} {mc' ms' : Nat} (hr : va_Run p l e R s mi args below meth c H locs cells n mc' ms' (F0 mi pc ls st0) rest (QK b0 cM D w' a) (fun q => b0 ≤ q)) (hI : KI b0 cM D s w H locs)
    (kk : ∀ H1 locs1, KI b0 cM D s w' H1 locs1 → W p l e R s mi args below meth c H1 locs1 (cells + mc') (n + ms') Q (F0 mi (pc + 3) ls rest)) : W p l e R s mi args below meth c H locs cells n Q (F0 mi pc ls st0) := by
  intro T0 hT Z
  obtain ⟨v, st₀, t, T', L', h0, X', hL', e1, e2, ⟨hv, hsz, hP, hz, hfr⟩, st⟩ := hr T0 hT Z
  cases hv
  rw [h0] at hz hfr
  obtain ⟨t2, a1, b1⟩ := kk T'.heap (locs ++ L') ⟨by rw [e1]; exact hsz, by rw [e1]; exact hP, ⟨by rw [e1]; exact Nat.le_trans hI.2.2.1 hz, fun q h1 h2 => by
      rw [e1, hfr q (Nat.lt_of_lt_of_le h1 hI.2.2.1) h2]
      exact hI.2.2.2.1 q h1 h2, fun q hq => by
      rcases List.mem_append.mp hq with h | h
      · exact hI.2.2.2.2 q h
      · exact hL' q h⟩⟩ T' rfl X'
  exact ⟨t2, st t2 a1, b1⟩
theorem good_kwsm {ci : Nat} (h : ci < 13) : GoodIn WS (kwsm ci) := fun w hw => (List.mem_cons.mp hw).elim (fun h1 => by rw [h1]; exact ⟨(kd_of h).1, WS_good (kd_of h).1⟩) (fun h1 => ⟨h1, WS_good h1⟩)
theorem mk_call (X : KX p s mi args meth c b0 cM D ci) {C : Nat → List AV → MW → Option MW} (hC : CSk l b0 cM D d C) (hR : R = rmk (d + 1) mc ms) (hI : KI b0 cM D s w H locs) {ci' idx : Nat} {q : Nat × Nat} {A : List AV} {w' : MW} (hc' : ci' < 13) (hcall : C ci' (.inr (.inr q) :: A) w = some w') (hlink : Cond.methodLink (cnm ci) idx (kyn ci') ∈ WS ∨ va_Nw (.methodLinkNest (cnm ci) idx (kyn ci') RX11) s) (hA : A.length = knp ci') {rest : List Value} (hcat : (rest.map fun v => v.category).sum ≤ 8) (hf : cells + (klm ci' (.inr (.inr q) :: A)).1 ≤ mc ∧ n + (klm ci' (.inr (.inr q) :: A)).2 ≤ ms) (hls : ls.size = kml ci) (hd : decode (kbt ci) pc = .ok (.invokespecial idx, 3))
    (kk : ∀ H1 locs1, KI b0 cM D s w' H1 locs1 → W p l e R s mi args below meth c H1 locs1 (cells + (klm ci' (.inr (.inr q) :: A)).1) (n + (klm ci' (.inr (.inr q) :: A)).2) Q (F0 mi (pc + 3) ls rest)) : W p l e R s mi args below meth c H locs cells n Q (F0 mi pc ls ((A.map (conc (α0 b0))).reverse ++ .ref (b0 + q.1) :: rest)) := by
  obtain ⟨hx, hb, hml, hown, hts, hW, hnm, hb0, hci, hrt, hlk⟩ := X
  obtain ⟨w1, w2, w3, w4, w5, w6, w7, w8, w9, w10⟩ := kd_of hc'
  have hM := hC _ _ _ _ hcall hc'
  have hpre : PreS s H (va_Pc ((.inr (.inr q) :: A : List AV).map (conc (α0 b0))) (PreK b0 cM D w)) (.ref (b0 + q.1) :: A.map (conc (α0 b0))) := ⟨blind_K, fun U hU hW' => ⟨rfl, by rw [hU]; exact hI.1, by rw [hU]; exact hI.2.1, hW.moved hW'⟩⟩
  subst hR
  have hroom : (rmk d (klm ci' (.inr (.inr q) :: A)).1 (klm ci' (.inr (.inr q) :: A)).2).frames + 1 ≤ (rmk (d + 1) mc ms).frames ∧ 8 + (kml ci' + 11) + (rmk d (klm ci' (.inr (.inr q) :: A)).1 (klm ci' (.inr (.inr q) :: A)).2).locals ≤ (rmk (d + 1) mc ms).locals := by
    show d + 1 ≤ d + 1 ∧ 8 + (kml ci' + 11) + 64 * d ≤ 64 * (d + 1)
    omega
  rcases hlink with hlink | hlink
  · exact run_K (va_runI (As := A.map (conc (α0 b0))) (rest := rest) ⟨hx, hb, hml, hown, hts⟩ hM (cwI (knp ci') hts (good_kwsm hc') rfl rfl rfl (hts _ w2) (hts _ hlink) (hts _ w3) w8 w9 hroom) hpre rfl (by rw [List.length_map, hA]) hls rfl (lv_room' hcat) hd hf) hI kk
  · exact run_K (va_runIN (As := A.map (conc (α0 b0))) (rest := rest) ⟨hx, hb, hml, hown, hts⟩ hM ⟨va_cnB (knp ci') hts (good_kwsm hc') rfl rfl rfl hlink (hts _ w2) w9 hroom, w8, hts _ w3⟩ hpre rfl (by rw [List.length_map, hA]) hls rfl (lv_room' hcat) hd hf) hI kk
theorem rev_take {S A : List AV} {m : Nat} {x : AV} (h : (S.take m).reverse = x :: A) : S = A.reverse ++ x :: S.drop m := by
  have h1 : S.take m = (x :: A).reverse := by rw [← h, List.reverse_reverse]
  rw [List.reverse_cons] at h1
  have h2 := List.take_append_drop m S
  rw [h1, List.append_assoc] at h2
  exact h2.symm
theorem snd_kst (X : KX p s mi args meth c b0 cM D ci) {C : Nat → List AV → MW → Option MW} (hC : CSk l b0 cM D d C) (hR : R = rmk (d + 1) mc ms) (hK : KSm p l e R s mi args below meth c (MQ below (QK b0 cM D z) args s mc ms (fun q => b0 ≤ q)) b0 cM D l0 (kml ci) K z) {ig : Instr} {len : Nat} (hd : decode (kbt ci) pc = .ok (ig, len))
    (h : kst C K ci mc ms l0 ig len pc L S w n = some z) (hn : L.length = kml ci) (hc : l0 + cells = w.length) (hI : KI b0 cM D s w H locs) (hl : lv_has ls (kml ci) (lvl (α0 b0) 0 L)) : W p l e R s mi args below meth c H locs cells n (MQ below (QK b0 cM D z) args s mc ms (fun q => b0 ≤ q)) (F0 mi pc ls (S.map (conc (α0 b0)))) := by
  have X0 := X
  obtain ⟨hx, hb, hml, hown, hts, hW, hnm, hb0, hci, hrt, hlocks⟩ := X
  have hRc : R.cells = mc ∧ R.slots = ms ∧ R.frames = d + 1 ∧ R.locals = 64 * (d + 1) := by rw [hR]; exact ⟨rfl, rfl, rfl, rfl⟩
  unfold kst at h
  split at h
  · -- aload_n
    split at h
    · next q hq => exact lv_aload_n hx hb hd rfl (lvl_get hl hq) (hK _ _ _ _ _ h hn H locs ls cells hc hI hl)
    · cases h
  · -- iload_n
    split at h
    · next x hq => exact lv_iload_n hx hb hd rfl (lvl_get hl hq) (hK _ _ _ _ _ h hn H locs ls cells hc hI hl)
    · cases h
  · exact lv_iconst hx hb hd rfl (hK _ _ _ _ _ h hn H locs ls cells hc hI hl)
  · exact lv_bipush hx hb hd rfl (hK _ _ _ _ _ h hn H locs ls cells hc hI hl)
  · exact lv_sipush hx hb hd rfl (hK _ _ _ _ _ h hn H locs ls cells hc hI hl)
  · -- ldc
    next i =>
    cases hq : (Nat.beq ci 12 && Nat.beq i 80)
    · rw [hq] at h; cases h
    · rw [hq] at h
      rw [Bool.and_eq_true] at hq
      have h1 := Nat.eq_of_beq_eq_true hq.1
      have h2 := Nat.eq_of_beq_eq_true hq.2
      subst h1 h2
      exact lv_ldc hx hb hown (hts _ ow_ldc) hd (hK _ _ _ _ _ h hn H locs ls cells hc hI hl)
  · -- dup
    split at h
    · exact lv_dup hx hb hd rfl (hK _ _ _ _ _ h hn H locs ls cells hc hI hl)
    · cases h
  · -- istore_n
    next k =>
    split at h
    · next x S' =>
      cases hq : Nat.blt k.val L.length
      · rw [hq] at h; cases h
      · rw [hq] at h
        have hi : k.val < kml ci := by rw [← hn]; exact Nat.le_of_ble_eq_true hq
        exact lv_istore_n hx hb hd rfl hl hi rfl (fun ls' hl' => hK _ _ _ _ _ h (by rw [lset1_len]; exact hn) H locs ls' cells hc hI (lset1_has (v := .inl x) hl'))
    · cases h
  · -- iinc
    next i zz =>
    split at h
    · next x hq =>
      obtain ⟨k, hk⟩ := lvl_idx (α := α0 b0) hq
      have hi : i < kml ci := by rw [← hn]; exact (List.getElem?_eq_some_iff.mp hq).1
      exact lv_iinc hx hb hd hl hk rfl hi rfl (fun ls' hl' => hK _ _ _ _ _ h (by rw [lset1_len]; exact hn) H locs ls' cells hc hI (lset1_has (v := .inl _) hl'))
    · cases h
  · -- if_icmpge
    next off =>
    split at h
    · next y x S' =>
      cases hq : decide ((pc : Int) + off = (((pc : Int) + off).toNat : Int))
      · rw [hq] at h; cases h
      · rw [hq] at h
        have ht := of_decide_eq_true hq
        refine lv_icmp_ge hx hb hd ht (fun q => ?_) (fun q => ?_)
        · simp only [cond_true, decide_eq_true q] at h
          exact hK _ _ _ _ _ h hn H locs ls cells hc hI hl
        · simp only [cond_true, decide_eq_false q, cond_false] at h
          exact hK _ _ _ _ _ h hn H locs ls cells hc hI hl
    · cases h
  · -- goto
    next off =>
    cases hq : decide ((pc : Int) + off = (((pc : Int) + off).toNat : Int))
    · rw [hq] at h; cases h
    · rw [hq] at h
      exact lv_goto hx hb hd (of_decide_eq_true hq) (hK _ _ _ _ _ h hn H locs ls cells hc hI hl)
  · -- new
    next i =>
    split at h
    · next en hf =>
      obtain ⟨hm, h1, h2⟩ := find_at hf
      have ho := List.all_eq_true.mp oknw_all en hm
      unfold oknw at ho
      rw [h1, h2] at ho
      cases hq : (Nat.ble (w.length + 1) (l0 + mc) && Nat.ble (n + (Tc en.2.2.1).2.2) ms && Nat.blt en.2.2.1 13)
      · rw [hq] at h; cases h
      · rw [hq] at h
        simp only [Bool.and_eq_true] at hq
        have g1 := Nat.le_of_ble_eq_true hq.1.1
        have g2 := Nat.le_of_ble_eq_true hq.1.2
        have g3 : en.2.2.1 < 13 := Nat.le_of_ble_eq_true hq.2
        exact mk_new X0 hI g3 (WS_in (inT_mem ho) rfl) (by rw [hRc.1]; omega) (by rw [hRc.2.1]; exact g2) hd (fun H1 hI1 => hK _ _ _ _ _ h hn H1 locs ls (cells + 1) (by rw [List.length_append]; show _ = _ + 1; omega) hI1 hl)
    · cases h
  · -- newarray
    next t =>
    split at h
    · next x S' k hk =>
      cases hq : (decide (¬ x < 0) && Nat.ble x.toNatClampNeg 60000 && Nat.ble (w.length + 1) (l0 + mc) && Nat.ble (n + x.toNatClampNeg) ms)
      · rw [hq] at h; cases h
      · rw [hq] at h
        simp only [Bool.and_eq_true] at hq
        obtain ⟨⟨⟨q1, q2⟩, q3⟩, q4⟩ := hq
        have q1 := of_decide_eq_true q1
        have q2 := Nat.le_of_ble_eq_true q2
        have q3 := Nat.le_of_ble_eq_true q3
        have q4 := Nat.le_of_ble_eq_true q4
        exact mk_newa X0 hI hk q1 q2 (by rw [hRc.1]; omega) (by rw [hRc.2.1]; exact q4) hd (fun H1 hI1 => hK _ _ _ _ _ h hn H1 locs ls (cells + 1) (by rw [List.length_append]; show _ = _ + 1; omega) hI1 hl)
    · cases h
  · -- anewarray
    next i =>
    split at h
    · next x S' en hf =>
      obtain ⟨hm, h1, h2⟩ := find_at hf
      have ho := List.all_eq_true.mp okaw_all en hm
      unfold okaw at ho
      rw [h1, h2] at ho
      cases hq : (decide (¬ x < 0) && Nat.ble x.toNatClampNeg 60000 && Nat.ble (w.length + 1) (l0 + mc) && Nat.ble (n + x.toNatClampNeg) ms)
      · rw [hq] at h; cases h
      · rw [hq] at h
        simp only [Bool.and_eq_true] at hq
        obtain ⟨⟨⟨q1, q2⟩, q3⟩, q4⟩ := hq
        have q1 := of_decide_eq_true q1
        have q2 := Nat.le_of_ble_eq_true q2
        have q3 := Nat.le_of_ble_eq_true q3
        have q4 := Nat.le_of_ble_eq_true q4
        rw [Bool.or_eq_true, Bool.and_eq_true, Bool.and_eq_true] at ho
        have kk := fun H1 hI1 => hK _ _ _ _ _ h hn H1 locs ls (cells + 1) (by rw [List.length_append]; show _ = _ + 1; omega) hI1 hl
        rcases ho with ⟨o1, o2⟩ | ⟨o1, o2⟩
        · have o1 := Nat.eq_of_beq_eq_true o1
          exact mk_newq X0 hI (k := en.2.2.1) (by omega) (by rw [o1]; rfl) hW.2.2.1 (WS_in (inT_mem o2) rfl) q1 q2 (by rw [hRc.1]; omega) (by rw [hRc.2.1]; exact q4) hd kk
        · have o1 := Nat.eq_of_beq_eq_true o1
          exact mk_newq X0 hI (k := en.2.2.1) (by omega) (by rw [o1]; rfl) hW.2.2.2.1 (WS_in (inT_mem o2) rfl) q1 q2 (by rw [hRc.1]; omega) (by rw [hRc.2.1]; exact q4) hd kk
    · cases h
  · -- multianewarray
    next i =>
    split at h
    · next y x S' en hf =>
      obtain ⟨hm, h1, h2⟩ := find_at hf
      have ho := List.all_eq_true.mp okmm_all en hm
      unfold okmm at ho
      rw [h1, h2] at ho
      cases hq : (decide (¬ x < 0) && decide (¬ y < 0) && Nat.ble x.toNatClampNeg 1000 && Nat.ble y.toNatClampNeg 1000 && Nat.ble (w.length + (1 + x.toNatClampNeg)) (l0 + mc) && Nat.ble (n + (x.toNatClampNeg + x.toNatClampNeg * y.toNatClampNeg)) ms)
      · rw [hq] at h; cases h
      · rw [hq] at h
        simp only [Bool.and_eq_true] at hq
        obtain ⟨⟨⟨⟨⟨q1, q2⟩, q3⟩, q4⟩, q5⟩, q6⟩ := hq
        have q1 := of_decide_eq_true q1
        have q2 := of_decide_eq_true q2
        have q3 := Nat.le_of_ble_eq_true q3
        have q4 := Nat.le_of_ble_eq_true q4
        have q5 := Nat.le_of_ble_eq_true q5
        have q6 := Nat.le_of_ble_eq_true q6
        exact mk_mna X0 hI (WS_in (inT_mem ho) rfl) q1 q2 q3 q4 (by rw [hRc.1]; omega) (by rw [hRc.2.1]; exact q6) hd (fun H1 locs1 hI1 => hK _ _ _ _ _ h hn H1 locs1 ls (cells + 1 + x.toNatClampNeg) (by rw [List.length_append, List.length_cons, List.length_replicate]; omega) hI1 hl)
    · cases h
  · -- invokespecial
    next i =>
    split at h
    · next en hf =>
      obtain ⟨hm, h1, h2⟩ := find_at hf
      have ho := List.all_eq_true.mp okob_all en hm
      unfold okob at ho
      rw [h1, h2] at ho
      split at h
      · next q S' =>
        cases hq : Nat.ble (asum S') 8
        · rw [hq] at h; cases h
        · rw [hq] at h
          have has := Nat.le_of_ble_eq_true hq
          exact W.objInit hx hb hown (hts _ (WS_in (inT_mem ho) rfl)) (hts _ ow_init.1) (hts _ ow_init.2) (g := F0 mi pc ls (.ref (b0 + q.1) :: S'.map (conc (α0 b0)))) rfl (hl.1.trans hml.symm) rfl hd (by rw [hRc.2.2.1]; omega) (by rw [hRc.2.2.2, cat_map]; show 2 * 0 + _ + 12 ≤ _; omega) (hK _ _ _ _ _ h hn H locs ls cells hc hI hl)
      · cases h
    · split at h
      · next en hf =>
        obtain ⟨hm, h1, h2⟩ := find_at hf
        have ho := List.all_eq_true.mp okcl_all en hm
        unfold okcl at ho
        rw [Bool.or_eq_true, h1, h2] at ho
        split at h
        · next q A hrev =>
          cases hq : (Nat.beq A.length (knp en.2.2.1) && Nat.ble (asum (S.drop (knp en.2.2.1 + 1))) 8 && Nat.blt en.2.2.1 13)
          · rw [hq] at h; cases h
          · rw [hq] at h
            simp only [cond_true] at h
            split at h
            · next w' hcall =>
              cases hq2 : (Nat.beq w'.length (w.length + (klm en.2.2.1 (.inr (.inr q) :: A)).1) && Nat.ble w'.length (l0 + mc) && Nat.ble (n + (klm en.2.2.1 (.inr (.inr q) :: A)).2) ms)
              · rw [hq2] at h; cases h
              · rw [hq2] at h
                simp only [Bool.and_eq_true] at hq hq2
                have g1 := Nat.eq_of_beq_eq_true hq.1.1
                have g2 := Nat.le_of_ble_eq_true hq.1.2
                have g3 : en.2.2.1 < 13 := Nat.le_of_ble_eq_true hq.2
                have g4 := Nat.eq_of_beq_eq_true hq2.1.1
                have g5 := Nat.le_of_ble_eq_true hq2.1.2
                have g6 := Nat.le_of_ble_eq_true hq2.2
                have hS := rev_take hrev
                have hmap : S.map (conc (α0 b0)) = (A.map (conc (α0 b0))).reverse ++ .ref (b0 + q.1) :: (S.drop (knp en.2.2.1 + 1)).map (conc (α0 b0)) := by
                  conv => lhs; rw [hS]
                  rw [List.map_append, List.map_reverse]
                  rfl
                rw [hmap]
                refine mk_call X0 hC hR hI g3 hcall ?_ g1 (by rw [cat_map]; exact g2) ⟨by omega, g6⟩ hl.1 hd (fun H1 locs1 hI1 => hK _ _ _ _ _ h hn H1 locs1 ls _ (by omega) hI1 hl)
                rcases ho with ho | ho
                · have := hW.2.1 en hm (Nat.eq_of_beq_eq_true ho)
                  rw [h1, h2] at this
                  exact Or.inr this
                · exact Or.inl (WS_in (inT_mem ho) rfl)
            · cases h
        · cases h
      · cases h
  · -- invokestatic
    next i =>
    split at h
    · next y x S' =>
      cases hq : (Nat.beq ci 4 && Nat.beq i 13 && Nat.ble (asum S') 8 && Nat.ble w.length (l0 + mc) && Nat.ble n ms)
      · rw [hq] at h; cases h
      · rw [hq] at h
        simp only [Bool.and_eq_true] at hq
        obtain ⟨⟨⟨⟨q1, q2⟩, q3⟩, q4⟩, q5⟩ := hq
        have g1 := Nat.eq_of_beq_eq_true q1
        have g2 := Nat.eq_of_beq_eq_true q2
        have g3 := Nat.le_of_ble_eq_true q3
        have g4 := Nat.le_of_ble_eq_true q4
        have g5 := Nat.le_of_ble_eq_true q5
        subst g1 g2
        exact va_mmax hx hb (hml.trans hl.1.symm) hown (hts _ ow_max) (hts _ pw3.1) (hts _ pw3.2.1) (hts _ pw3.2.2) (by rw [hRc.2.2.1]; omega) (by rw [hRc.2.2.2, cat_map]; omega) (by rw [hRc.1]; omega) (by rw [hRc.2.1]; exact g5) hd (hK _ _ _ _ _ h hn H locs ls cells hc hI hl)
    · cases h
  · -- putfield
    next i =>
    split at h
    · next v q S' en hf =>
      obtain ⟨hm, h1, h2⟩ := find_at hf
      have ho := List.all_eq_true.mp okkf_all en hm
      unfold okkf at ho
      rw [h1, h2, Bool.and_eq_true] at ho
      obtain ⟨o1, o2⟩ := ho
      have o2 := of_decide_eq_true o2
      split at h
      · next o hw =>
        cases hq : (Nat.beq o.1 ci && Nat.beq q.2 0 && Nat.blt en.2.2.1 o.2.length && kfok ci en.2.2.1 v)
        · rw [hq] at h; cases h
        · rw [hq] at h
          simp only [Bool.and_eq_true] at hq
          obtain ⟨⟨⟨q1, q2⟩, q3⟩, q4⟩ := hq
          have q1 := Nat.eq_of_beq_eq_true q1
          have q3 : en.2.2.1 < o.2.length := Nat.le_of_ble_eq_true q3
          have hw' : w[q.1]? = some (.inl (ci, o.2)) := by rw [hw, ← q1]
          exact mk_put X0 hI hw' o2.1 (WS_in (inT_mem o1) rfl) o2.2 q3 q4 hd (fun H1 locs1 hI1 => hK _ _ _ _ _ h hn H1 locs1 ls cells (by rw [List.length_set]; exact hc) hI1 hl)
      · cases h
    · cases h
  · -- getfield
    next i =>
    split at h
    · next q S' en hf =>
      obtain ⟨hm, h1, h2⟩ := find_at hf
      have ho := List.all_eq_true.mp okkf_all en hm
      unfold okkf at ho
      rw [h1, h2, Bool.and_eq_true] at ho
      obtain ⟨o1, o2⟩ := ho
      have o2 := of_decide_eq_true o2
      split at h
      · next o hw =>
        cases hq : (Nat.beq o.1 ci && Nat.beq q.2 0)
        · rw [hq] at h; cases h
        · rw [hq] at h
          simp only [Bool.and_eq_true] at hq
          have q1 := Nat.eq_of_beq_eq_true hq.1
          simp only [cond_true] at h
          split at h
          · next v hv =>
            have hw' : w[q.1]? = some (.inl (ci, o.2)) := by rw [hw, ← q1]
            exact va_get (ci := ci) (v := conc (α0 b0) v) hx hb hts (uw_in hci) hown hW.1 hI.2.1 q.1 (mr_at hw') (Tc_at hci) en.2.2.1 o2.1 (hts _ (WS_in (inT_mem o1) rfl)) (fun _ h9 => h9) (by rw [List.getElem?_map, hv]; rfl) hd (hK _ _ _ _ _ h hn H locs ls cells hc hI hl)
          · cases h
      · cases h
    · cases h
  · -- aastore
    split at h
    · next v i q S' =>
      split at h
      · next a o hwa hwv =>
        cases hq : (Nat.beq q.2 0 && Nat.beq v.2 0 && decide (¬ i < 0) && Nat.blt i.toNatClampNeg a.2.1 && ((Nat.beq a.1 4 && Nat.beq o.1 6) || (Nat.beq a.1 5 && Nat.beq o.1 10)))
        · rw [hq] at h; cases h
        · rw [hq] at h
          simp only [Bool.and_eq_true, Bool.or_eq_true] at hq
          obtain ⟨⟨⟨⟨q1, q2⟩, q3⟩, q4⟩, q5⟩ := hq
          have q3 := of_decide_eq_true q3
          have q4 : i.toNatClampNeg < a.2.1 := Nat.le_of_ble_eq_true q4
          have hty : a.1 < 7 ∧ o.1 < 13 ∧ mty a.1 = .object (Tc o.1).1 := by
            rcases q5 with ⟨g1, g2⟩ | ⟨g1, g2⟩
            · rw [Nat.eq_of_beq_eq_true g1, Nat.eq_of_beq_eq_true g2]
              exact ⟨by decide, by decide, rfl⟩
            · rw [Nat.eq_of_beq_eq_true g1, Nat.eq_of_beq_eq_true g2]
              exact ⟨by decide, by decide, rfl⟩
          exact mk_aast X0 hI (k0 := q.1) (kv := v.1) hwa hwv hty.1 hty.2.1 hty.2.2 q3 q4 hd (fun H1 locs1 hI1 => hK _ _ _ _ _ h hn H1 locs1 ls cells (by rw [List.length_set]; exact hc) hI1 hl)
      · cases h
    · cases h
  · -- iastore
    split at h
    · next x i q S' =>
      split at h
      · next a hwa =>
        cases hq : (Nat.beq q.2 0 && Nat.beq a.1 0 && decide (¬ i < 0) && Nat.blt i.toNatClampNeg a.2.1)
        · rw [hq] at h; cases h
        · rw [hq] at h
          simp only [Bool.and_eq_true] at hq
          obtain ⟨⟨⟨q1, q2⟩, q3⟩, q4⟩ := hq
          have q3 := of_decide_eq_true q3
          have q4 : i.toNatClampNeg < a.2.1 := Nat.le_of_ble_eq_true q4
          have hwa' : w[q.1]? = some (.inr (.inl (0, a.2.1, a.2.2))) := by rw [hwa, ← Nat.eq_of_beq_eq_true q2]
          exact mk_iast X0 hI (k0 := q.1) hwa' q3 q4 hd (fun H1 locs1 hI1 => hK _ _ _ _ _ h hn H1 locs1 ls cells (by rw [List.length_set]; exact hc) hI1 hl)
      · cases h
    · cases h
  · -- return
    split at h
    · cases hq : (Nat.beq w.length (l0 + mc) && Nat.beq n ms)
      · rw [hq] at h; cases h
      · rw [hq] at h
        cases h
        rw [Bool.and_eq_true] at hq
        have g1 := Nat.eq_of_beq_eq_true hq.1
        have g2 := Nat.eq_of_beq_eq_true hq.2
        have g3 : cells = mc := by omega
        subst g2 g3
        exact W.vret hx hb hrt (fun t ht hW' => ⟨rfl, by rw [ht]; exact hI.1, by rw [ht]; exact hI.2.1, hI.2.2.F ht⟩) hI.2.2.2.2 hd
    · cases h
  · cases h
theorem snd_kx (X : KX p s mi args meth c b0 cM D ci) {C : Nat → List AV → MW → Option MW} (hC : CSk l b0 cM D d C) (hR : R = rmk (d + 1) mc ms) : ∀ f, KSm p l e R s mi args below meth c (MQ below (QK b0 cM D z) args s mc ms (fun q => b0 ≤ q)) b0 cM D l0 (kml ci) (kx C ci mc ms l0 f) z
  | 0 => fun pc L S w n h => by cases h
  | f + 1 => fun pc L S w n h hn H locs ls cells hc hI hl => by
    have h : (match decode (kbt ci) pc with
      | .ok q => kst C (kx C ci mc ms l0 f) ci mc ms l0 q.1 q.2 pc L S w n
      | _ => none) = some z := h
    split at h
    · next q hq => exact snd_kst X hC hR (snd_kx X hC hR f) (ig := q.1) (len := q.2) hq h hn hc hI hl
    · cases h
theorem snd_krun (l : Launch) (b0 : Nat) (cM : Nat → ClassId) (D : va_G) : ∀ d, CSk l b0 cM D d (krun d)
  | 0 => fun _ _ _ _ h => by cases h
  | d + 1 => fun ci a w w' h hci => by
    have h : cond (Nat.ble (entL a).length (kml ci)) (kx (krun d) ci (klm ci a).1 (klm ci a).2 w.length 400 0 (pad (kml ci) (entL a)) [] w 0) none = some w' := h
    cases hq : Nat.ble (entL a).length (kml ci)
    · rw [hq] at h; cases h
    rw [hq] at h
    have hle := Nat.le_of_ble_eq_true hq
    obtain ⟨w1, w2, w3, w4, w5, w6, w7, w8, w9, w10⟩ := kd_of hci
    refine Met.ofW (cc := kbt ci) (maxL := kml ci) (ret := none) w7 rfl ?_
    intro p e s mi args below meth c s₁ B hml hv
    obtain ⟨rfl, hsz, hP, hW⟩ := hv
    have hts0 := atoms_spec (ws := kwsm ci) B.pre
    have hown : s.vm.findClass (kyn ci).cls = some mi.cls := findClass_of_methodNamed B.named
    have hin : meth.name = "<init>" := (name_of_methodNamed B.named B.method).1.trans w8
    have X : KX p s mi (a.map (conc (α0 b0))).toArray meth c b0 cM D ci := ⟨B.exec, B.bytes, hml, by rw [← w5]; exact hown, fun w hw => hts0 w (List.mem_cons_of_mem _ hw), hW, hin, by omega, hci, B.returns, B.notSynchronized⟩
    rw [lg_entry_eq]
    have h0 := lv_entry (a.map (conc (α0 b0))) (n := kml ci) (by rw [ent_words]; exact hle)
    refine snd_kx X (snd_krun l b0 cM D d) rfl 400 0 (pad (kml ci) (entL a)) [] w 0 h (pad_len _ _ hle) s.heap [] _ 0 rfl ⟨hsz, hP, va_S.rf⟩ ⟨h0.1, h0.2.1, fun q hq => h0.2.2 q ?_⟩
    obtain ⟨k, v, h1, rfl⟩ := (lvl_mem _ 0).mp hq
    exact ent_args (α0 b0) a 0 k v (pad_get _ _ _ h1)
end MKR
