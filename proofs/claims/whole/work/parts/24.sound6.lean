/-! what the machine gives itself: arraycopy, Math.max and min, the texts' length and charAt -/
theorem nfw : nativeFrameWords "java/lang/System" "arraycopy" 5 = 7 := by decide +kernel
theorem pw0 : Cond.native arraycopyName ∈ WS ∧ Cond.static arraycopyName ∈ WS ∧ Cond.initialized "java/lang/System" ∈ WS := ⟨WS_in (inT_mem (k := 3106) (by decide +kernel)) rfl, WS_in (inT_mem (k := 3105) (by decide +kernel)) rfl, WS_in (inT_mem (k := 1019) (by decide +kernel)) rfl⟩
theorem pw3 : Cond.static Lib.Math.max.name ∈ WS ∧ Cond.initialized "java/lang/Math" ∈ WS ∧ Cond.code Lib.Math.max.name Lib.Math.max.code 2 (some .int) ∈ WS := ⟨WS_in (inT_mem (k := 1042) (by decide +kernel)) rfl, WS_in (inT_mem (k := 1004) (by decide +kernel)) rfl, WS_in (inC_mem (k := 1043) (by decide +kernel)) rfl⟩
theorem pw4 : Cond.static Lib.Math.min.name ∈ WS ∧ Cond.initialized "java/lang/Math" ∈ WS ∧ Cond.code Lib.Math.min.name Lib.Math.min.code 2 (some .int) ∈ WS := ⟨WS_in (inT_mem (k := 2191) (by decide +kernel)) rfl, WS_in (inT_mem (k := 1004) (by decide +kernel)) rfl, WS_in (inC_mem (k := 2192) (by decide +kernel)) rfl⟩
theorem pw1 : Cond.instanceMethod yJ0_length_8abf5 ∈ WS ∧ Cond.selects "java/lang/String" yJ0_length_8abf5 yJ0_length_8abf5 ∈ WS ∧ Cond.initialized "java/lang/String" ∈ WS ∧ Cond.code yJ0_length_8abf5 cJ0_length_8abf5 1 (some .int) ∈ WS := ⟨WS_in (inT_mem (k := 2211) (by decide +kernel)) rfl, WS_in (inT_mem (k := 2212) (by decide +kernel)) rfl, WS_in (inT_mem (k := 1015) (by decide +kernel)) rfl, WS_in (inC_mem (k := 2213) (by decide +kernel)) rfl⟩
theorem pw2 : Cond.instanceMethod yJ0_charAt_5068e ∈ WS ∧ Cond.selects "java/lang/String" yJ0_charAt_5068e yJ0_charAt_5068e ∈ WS ∧ Cond.initialized "java/lang/String" ∈ WS ∧ Cond.code yJ0_charAt_5068e cJ0_charAt_5068e 2 (some .char) ∈ WS := ⟨WS_in (inT_mem (k := 2221) (by decide +kernel)) rfl, WS_in (inT_mem (k := 2222) (by decide +kernel)) rfl, WS_in (inT_mem (k := 1015) (by decide +kernel)) rfl, WS_in (inC_mem (k := 2223) (by decide +kernel)) rfl⟩
theorem pr_at {m idx w : Nat} (h : prs.any (fun e => Nat.beq e.1 (mcl m) && Nat.beq e.2.1 idx && Nat.beq e.2.2.1 w) = true) : Cond.methodLink (cnm (mcl m)) idx (pnm w) ∈ WS := by
  obtain ⟨q, hq, hd⟩ := List.any_eq_true.mp h
  simp only [Bool.and_eq_true] at hd
  obtain ⟨⟨h1, h2⟩, h3⟩ := hd
  have ho := List.all_eq_true.mp okp_all q hq
  rw [Nat.eq_of_beq_eq_true h1, Nat.eq_of_beq_eq_true h2, Nat.eq_of_beq_eq_true h3] at ho
  exact WS_in (inT_mem ho) rfl
/-- what is owed of the texts' methods -/
def TX (l : Launch) (α : Nat → Nat → Nat) (cT : Nat → ClassId) (D : va_G) (adV : Nat → Nat) : Prop :=
  (∀ i σ sz, i < 12 → Met l yJ0_length_8abf5 (Cond.code yJ0_length_8abf5 cJ0_length_8abf5 1 (some .int) :: WS) (rmm 6) (va_Pc [.ref (α 494 i)] (PreM α cT D adV σ sz)) (QM α cT D (some (.inl (Int32.ofNat (slen i)))) σ sz) 0 0 (AA α sz)) ∧
  ∀ i j σ sz, i < 12 → vp_in j (slen i) → Met l yJ0_charAt_5068e (Cond.code yJ0_charAt_5068e cJ0_charAt_5068e 2 (some .char) :: WS) (rmm 6) (va_Pc [.ref (α 494 i), .int j] (PreM α cT D adV σ sz)) (QM α cT D (some (.inl (sch i j.toNatClampNeg))) σ sz) 0 0 (AA α sz)
theorem i32_nn {z : Int32} (hz : 0 ≤ z.toInt) : ¬ z < 0 ∧ z.toInt = (z.toNatClampNeg : Int) := by
  constructor
  · intro h
    have := Int32.lt_iff_toInt_lt.mp h
    have h0 : (0 : Int32).toInt = 0 := rfl
    omega
  · show z.toInt = ((z.toInt.toNat : Nat) : Int)
    omega
section SND6
variable {p : Program} {l : Launch} {e : Env} {R : Room} {s : State} {mi : MethodId} {args : Array Value} {below : List Frame} {meth : Method} {c : Code} {cells slots : Nat} {Q : State → Prop} {α : Nat → Nat → Nat} {cT : Nat → ClassId} {D : va_G} {adV : Nat → Nat} {scr : Bool} {xs : Nat → Int32} {Ln m : Nat} {K : AK} {z : AR}
variable {pc : Nat} {L : AL} {S : List AV} {σ : St} {H : Heap} {locs : List Loc} {ls : Array Slot}
theorem gI_cpI (σ : St) (t1 i1 p1 t2 i2 p2 n t' i' j' : Nat) : gI (cpI σ t1 i1 p1 t2 i2 p2 n) t' i' j' = if t' = t2 ∧ i' = i2 ∧ p2 ≤ j' ∧ j' < p2 + n then gI σ t1 i1 (p1 + (j' - p2)) else gI σ t' i' j' := rfl
theorem gL_cpL (σ : St) (t1 i1 p1 t2 i2 p2 n t' i' j' : Nat) : gL (cpL σ t1 i1 p1 t2 i2 p2 n) t' i' j' = if t' = t2 ∧ i' = i2 ∧ p2 ≤ j' ∧ j' < p2 + n then gL σ t1 i1 (p1 + (j' - p2)) else gL σ t' i' j' := rfl
theorem snd_cpA (X : CX p s mi args c α cT D adV scr xs Ln m) (hK : KS p l e R s mi args below meth c cells slots Q α cT D scr xs Ln (maxL m) K z) {idx : Nat} (hd : decode (mbt m) pc = .ok (.invokestatic idx, 3)) (hlk : Cond.methodLink (cnm (mcl m)) idx (pnm 0) ∈ WS) (hR : 1 ≤ R.frames ∧ 64 ≤ R.locals)
    (h : cpA K (pc + 3) L S σ = some z) (hS : ∀ v ∈ S, okv scr v) (hL : ∀ v, some v ∈ L → okv scr v) (hn : L.length = maxL m) (hI : IW α cT D s scr xs Ln σ H locs) (hl : lv_has ls (maxL m) (lvl α 0 L)) : W p l e R s mi args below meth c H locs cells slots Q (F0 mi pc ls (S.map (conc α))) := by
  obtain ⟨hx, hb, hml, hown, hts, hKK, -, -⟩ := X
  unfold cpA at h
  split at h
  · next n dp t2 i2 sp t1 i1 =>
    split at h
    · next hg =>
      obtain ⟨g1, g2, g3, g4, g5⟩ := hg
      obtain ⟨n1, n2⟩ := i32_nn g1
      obtain ⟨s1, s2⟩ := i32_nn g2
      obtain ⟨d1, d2⟩ := i32_nn g3
      have ho1 : okr scr (t1, i1) := hS (.inr (.inr (t1, i1))) (by simp)
      have ho2 : okr scr (t2, i2) := hS (.inr (.inr (t2, i2))) (by simp)
      cases hk : (Nat.beq (lk t1) 1 && Nat.beq (lk t2) 1 && !(Nat.beq t1 497) && !(Nat.beq t2 497))
      · rw [hk] at h
        simp only [cond_false] at h
        cases hk2 : (Nat.beq (lk t1) 2 && Nat.beq (lk t2) 2)
        · rw [hk2] at h; cases h
        · rw [hk2] at h
          simp only [cond_true] at h
          rw [Bool.and_eq_true] at hk2
          have hin1 := okr_dom ho1 (lk_notScr hk2.1 (by decide)) (lk_notStr hk2.1 (by decide))
          have hin2 := okr_dom ho2 (lk_notScr hk2.2 (by decide)) (lk_notStr hk2.2 (by decide))
          obtain ⟨q1, hq1⟩ := dom_at hin1
          obtain ⟨q2, hq2⟩ := dom_at hin2
          have hat1 := wl_at (α := α) (cT := cT) (σ := σ) hq1
          rw [ce_long hk2.1] at hat1
          have hat2 := wl_at (α := α) (cT := cT) (σ := σ) hq2
          rw [ce_long hk2.2] at hat2
          obtain ⟨u1, hu1⟩ := lk_ty (cT := cT) hin1 hk2.1 (Or.inr (Or.inl ⟨rfl, rfl⟩))
          obtain ⟨u2, hu2⟩ := lk_ty (cT := cT) hin2 hk2.2 (Or.inr (Or.inl ⟨rfl, rfl⟩))
          refine va_copyl (ty := .long) (rest := []) hx hb (by rw [hml]; exact hl.1.symm) hown (hts _ hlk) (hts _ pw0.1) (hts _ pw0.2.1) (hts _ pw0.2.2) hKK.1 hI.1 hI.2.1 hI.2.2.1 q1 q2 u1 u2 hat1 hat2 hu1 hu2 rfl s1 d1 n1 (by omega) (by omega) (fun _ _ => rfl) hR.1 (by show 0 + (nativeFrameWords "java/lang/System" "arraycopy" 5 + 11) ≤ R.locals; rw [nfw]; omega) hd (fun H1 locs1 e1 e2 e3 => ?_)
          have hset : (wl α cT σ).set q2 (α t2 i2, .inl (cT t2, ln t2 i2, .inr (.inl (va_cpy (gL σ t1 i1) (gL σ t2 i2) sp.toNatClampNeg dp.toNatClampNeg n.toNatClampNeg)))) = wl α cT (cpL σ t1 i1 sp.toNatClampNeg t2 i2 dp.toNatClampNeg n.toNatClampNeg) := by
            refine wl_set hq2 ?_ ?_
            · rw [ce_long hk2.2]
              congr 5
              funext j
              rw [gL_cpL]
              unfold va_cpy
              by_cases hj : dp.toNatClampNeg ≤ j ∧ j < dp.toNatClampNeg + n.toNatClampNeg
              · rw [if_pos hj, if_pos ⟨rfl, rfl, hj⟩]
              · rw [if_neg hj, if_neg (fun q => hj q.2.2)]
            · intro t' i' hne
              exact ce_same (fun _ => rfl) (fun j => by rw [gL_cpL, if_neg (fun q => hne ⟨q.1, q.2.1⟩)])
          rw [hset] at e1 e2
          exact hK _ _ _ _ h (fun v hv => by cases hv) hL hn H1 locs1 ls ⟨e1, e2, e3, fun hs => hI.2.2.2 hs⟩ hl
      · rw [hk] at h
        simp only [cond_true] at h
        simp only [Bool.and_eq_true, Bool.not_eq_true'] at hk
        obtain ⟨⟨⟨k1, k2⟩, k3⟩, k4⟩ := hk
        have ns1 : t1 ≠ 497 := fun q => by rw [q] at k3; simp at k3
        have ns2 : t2 ≠ 497 := fun q => by rw [q] at k4; simp at k4
        have hin1 := okr_dom ho1 ns1 (lk_notStr k1 (by decide))
        have hin2 := okr_dom ho2 ns2 (lk_notStr k2 (by decide))
        obtain ⟨q1, hq1⟩ := dom_at hin1
        obtain ⟨q2, hq2⟩ := dom_at hin2
        have hat1 := wl_at (α := α) (cT := cT) (σ := σ) hq1
        rw [ce_int k1 (Or.inl rfl)] at hat1
        have hat2 := wl_at (α := α) (cT := cT) (σ := σ) hq2
        rw [ce_int k2 (Or.inl rfl)] at hat2
        obtain ⟨u1, hu1⟩ := lk_ty (cT := cT) hin1 k1 (Or.inl ⟨rfl, rfl⟩)
        obtain ⟨u2, hu2⟩ := lk_ty (cT := cT) hin2 k2 (Or.inl ⟨rfl, rfl⟩)
        refine va_copyi (ty := .int) (rest := []) hx hb (by rw [hml]; exact hl.1.symm) hown (hts _ hlk) (hts _ pw0.1) (hts _ pw0.2.1) (hts _ pw0.2.2) hKK.1 hI.1 hI.2.1 hI.2.2.1 q1 q2 u1 u2 hat1 hat2 hu1 hu2 rfl s1 d1 n1 (by omega) (by omega) (fun _ _ => rfl) hR.1 (by show 0 + (nativeFrameWords "java/lang/System" "arraycopy" 5 + 11) ≤ R.locals; rw [nfw]; omega) hd (fun H1 locs1 e1 e2 e3 => ?_)
        have hset : (wl α cT σ).set q2 (α t2 i2, .inl (cT t2, ln t2 i2, .inl (va_cpy (gI σ t1 i1) (gI σ t2 i2) sp.toNatClampNeg dp.toNatClampNeg n.toNatClampNeg))) = wl α cT (cpI σ t1 i1 sp.toNatClampNeg t2 i2 dp.toNatClampNeg n.toNatClampNeg) := by
          refine wl_set hq2 ?_ ?_
          · rw [ce_int k2 (Or.inl rfl)]
            congr 4
            funext j
            rw [gI_cpI]
            unfold va_cpy
            by_cases hj : dp.toNatClampNeg ≤ j ∧ j < dp.toNatClampNeg + n.toNatClampNeg
            · rw [if_pos hj, if_pos ⟨rfl, rfl, hj⟩]
            · rw [if_neg hj, if_neg (fun q => hj q.2.2)]
          · intro t' i' hne
            exact ce_same (fun j => by rw [gI_cpI, if_neg (fun q => hne ⟨q.1, q.2.1⟩)]) (fun _ => rfl)
        rw [hset] at e1 e2
        exact hK _ _ _ _ h (fun v hv => by cases hv) hL hn H1 locs1 ls ⟨e1, e2, e3, fun hs => ⟨fun j hj => by rw [gI_cpI, if_neg (fun q => ns2 q.1.symm)]; exact (hI.2.2.2 hs).1 j hj, by rw [gI_cpI, if_neg (fun q => ns2 q.1.symm)]; exact (hI.2.2.2 hs).2⟩⟩ hl
    · cases h
  · cases h
theorem snd_mm (hK : KS p l e R s mi args below meth c cells slots Q α cT D scr xs Ln (maxL m) K z) {f : Int32 → Int32 → Int32}
    (hop : ∀ (x y : Int32) (rest : List Value), (rest.map fun v => v.category).sum ≤ 8 → W p l e R s mi args below meth c H locs cells slots Q (F0 mi (pc + 3) ls (.int (f x y) :: rest)) → W p l e R s mi args below meth c H locs cells slots Q (F0 mi pc ls (.int y :: .int x :: rest)))
    (h : mmI K (pc + 3) L S σ f = some z) (hS : ∀ v ∈ S, okv scr v) (hL : ∀ v, some v ∈ L → okv scr v) (hn : L.length = maxL m) (hI : IW α cT D s scr xs Ln σ H locs) (hl : lv_has ls (maxL m) (lvl α 0 L)) : W p l e R s mi args below meth c H locs cells slots Q (F0 mi pc ls (S.map (conc α))) := by
  unfold mmI at h
  split at h
  · next y x S' =>
    cases hb : Nat.ble (asum S') 8
    · rw [hb] at h; cases h
    · rw [hb] at h
      exact hop _ _ _ (by rw [cat_map]; exact Nat.le_of_ble_eq_true hb) (hK _ _ _ _ h (okS_cons trivial (okS_tail (okS_tail hS))) hL hn H locs ls hI hl)
  · cases h
theorem snd_tx (X : CX p s mi args c α cT D adV scr xs Ln m) (hK : KS p l e R s mi args below meth c cells slots Q α cT D scr xs Ln (maxL m) K z) {idx i : Nat} {y : MethodName} {b : ByteArray} {ml : Nat} {rt : Option FieldType} {As : List AV} {v : AV} {S' : List AV} (hd : decode (mbt m) pc = .ok (.invokevirtual idx, 3)) (hlk : Cond.methodLink (cnm (mcl m)) idx y ∈ WS) (hR : 8 ≤ R.frames ∧ 512 ≤ R.locals ∧ cells ≤ R.cells ∧ slots ≤ R.slots)
    (hw : Cond.instanceMethod y ∈ WS ∧ Cond.selects "java/lang/String" y y ∈ WS ∧ Cond.initialized "java/lang/String" ∈ WS ∧ Cond.code y b ml rt ∈ WS) (hy : y.cls = "java/lang/String") (hml : ml ≤ 10) (hpd : (parseMethodDescriptor y.desc).map (fun d => d.parameters.length) = some As.length) (hi : i < 12) (has : asum S' ≤ 8)
    (hM : Met l y (Cond.code y b ml rt :: WS) (rmm 6) (va_Pc (.ref (α 494 i) :: As.map (conc α)) (PreM α cT D adV σ H.size)) (QM α cT D (some v) σ H.size) 0 0 (AA α H.size)) (hv : okv scr v)
    (h : K (pc + 3) L (v :: S') σ = some z) (hS' : ∀ v ∈ S', okv scr v) (hL : ∀ v, some v ∈ L → okv scr v) (hn : L.length = maxL m) (hI : IW α cT D s scr xs Ln σ H locs) (hl : lv_has ls (maxL m) (lvl α 0 L)) : W p l e R s mi args below meth c H locs cells slots Q (F0 mi pc ls ((As.map (conc α)).reverse ++ .ref (α 494 i) :: S'.map (conc α))) := by
  have X0 := X
  obtain ⟨hx, hb, hmx, hown, hts, hKK, hvk, -⟩ := X
  have hpre : PreV s H "java/lang/String" (α 494 i) (va_Pc (.ref (α 494 i) :: As.map (conc α)) (PreM α cT D adV σ H.size)) (As.map (conc α)) := ⟨blind_M, vk_recv hvk.1 hi hI.2.2.1, fun U hU hW => ⟨rfl, pre_of X0 hI hU hW⟩⟩
  have cw := cwV (R := R) (own := cnm (mcl m)) (C := "java/lang/String") (index := idx) (y := y) (bytes := b) (maxL := ml) (ret := rt) (mc := 0) (ms := 0) (rm := rmm 6) (ws := Cond.code y b ml rt :: WS) As.length hts (fun w hw' => by
    rcases List.mem_append.mp (show w ∈ ([.methodLink (cnm (mcl m)) idx y, .instanceMethod y, .selects "java/lang/String" y y, .initialized "java/lang/String"] : List Cond) ++ (Cond.code y b ml rt :: WS) from hw') with h | h
    · simp only [List.mem_cons, List.not_mem_nil, or_false] at h
      rcases h with rfl | rfl | rfl | rfl
      · exact ⟨hlk, WS_good hlk⟩
      · exact ⟨hw.1, WS_good hw.1⟩
      · exact ⟨hw.2.1, WS_good hw.2.1⟩
      · exact ⟨hw.2.2.1, WS_good hw.2.2.1⟩
    · rcases List.mem_cons.mp h with rfl | h
      · exact ⟨hw.2.2.2, WS_good hw.2.2.2⟩
      · exact ⟨h, WS_good h⟩) rfl rfl rfl ⟨hy, by rw [hy]; decide +kernel, by rw [hy]; decide +kernel, hpd⟩ (by
      show 6 + 1 ≤ R.frames ∧ 8 + (ml + 11) + 64 * 6 ≤ R.locals
      omega)
  exact run_W (va_runV (As := As.map (conc α)) (rest := S'.map (conc α)) ⟨hx, hb, hmx, hown, hts⟩ hM cw hpre rfl (by rw [List.length_map]) hl.1 rfl (by rw [cat_map]; exact lv_room' has) hd hR.2.2) hI (fun _ _ => rfl) (fun H1 locs1 hI1 => hK _ _ _ _ h (okS_cons hv hS') hL hn H1 locs1 ls hI1 hl)
end SND6
