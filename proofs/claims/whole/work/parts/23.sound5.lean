/-! calls -/
def wsm (m : Nat) : List Cond := Cond.code (myn m) (mbt m) (maxL m) (mrt m) :: WS
def rmm (μ : Nat) : Room := { frames := μ, cells := 0, slots := 0, locals := 64 * μ }
def PreM (α : Nat → Nat → Nat) (cT : Nat → ClassId) (D : va_G) (adV : Nat → Nat) (σ : St) (sz : Nat) (U : State) : Prop :=
  U.heap.size = sz ∧ va_P D vwCl (wl α cT σ) U.heap ∧ KK α cT D U ∧ va_D (AA α sz) (wl α cT σ) ∧ vzS α adV (AA α sz) U U.heap
def QM (α : Nat → Nat → Nat) (cT : Nat → ClassId) (D : va_G) (res : Option AV) (σ' : St) (sz : Nat) : Array Value → State → Outcome → State → Prop := fun _ st o t =>
  o = .returned (res.map (conc α)) ∧ va_P D vwCl (wl α cT σ') t.heap ∧ va_F (AA α sz) st t
/-- what calls answer is sound -/
def CS (l : Launch) (α : Nat → Nat → Nat) (cT : Nat → ClassId) (D : va_G) (adV : Nat → Nat) (C : AC) : Prop :=
  ∀ m r a σ res σ', C m r a σ = some (res, σ') → 1 ≤ m → m ≤ 371 → (∀ v ∈ a, okv false v) → ∀ sz, Met l (myn m) (wsm m) (rmm (lev m + r)) (va_Pc (a.map (conc α)) (PreM α cT D adV σ sz)) (QM α cT D res σ' sz) 0 0 (AA α sz)
/-- calls leave the script, and answer no cell -/
def CK (C : AC) : Prop := ∀ m r a σ res σ', C m r a σ = some (res, σ') → ∀ i j, gI σ' 497 i j = gI σ 497 i j
theorem okm_at {m : Nat} (h1 : 1 ≤ m) (h2 : m ≤ 371) : okm m = true := by
  have go : ∀ a n, (List.range n).all (fun k => okm (k + a)) = true → a ≤ m → m < a + n → okm m = true := fun a n h h3 h4 => by
    have := List.all_eq_true.mp h (m - a) (List.mem_range.mpr (by omega))
    rwa [Nat.sub_add_cancel h3] at this
  by_cases q1 : m < 51
  · exact go 1 50 okm_1 (by omega) (by omega)
  by_cases q2 : m < 101
  · exact go 51 50 okm_51 (by omega) (by omega)
  by_cases q3 : m < 151
  · exact go 101 50 okm_101 (by omega) (by omega)
  by_cases q4 : m < 201
  · exact go 151 50 okm_151 (by omega) (by omega)
  by_cases q5 : m < 251
  · exact go 201 50 okm_201 (by omega) (by omega)
  by_cases q6 : m < 301
  · exact go 251 50 okm_251 (by omega) (by omega)
  by_cases q7 : m < 351
  · exact go 301 50 okm_301 (by omega) (by omega)
  · exact go 351 21 okm_351 (by omega) (by omega)
theorem md_of {m : Nat} (h1 : 1 ≤ m) (h2 : m ≤ 371) : Cond.code (myn m) (mbt m) (maxL m) (mrt m) ∈ WS ∧ Cond.initialized (myn m).cls ∈ WS ∧ (mst m = true → Cond.static (myn m) ∈ WS) ∧ (mst m = false → Cond.instanceMethod (myn m) ∈ WS ∧ Cond.selects (myn m).cls (myn m) (myn m) ∈ WS) ∧
    (myn m).cls = cnm (mcl m) ∧ plainName (myn m).cls = true ∧ ((myn m).cls ≠ "java/lang/invoke/MethodHandle" ∧ (myn m).cls ≠ "java/lang/invoke/VarHandle" ∧ (parseMethodDescriptor (myn m).desc).map (fun d => d.parameters.length) = some (mnp m)) ∧ maxL m ≤ 40 := by
  have h := okm_at h1 h2
  unfold okm at h
  simp only [Bool.and_eq_true] at h
  obtain ⟨⟨⟨a1, a2⟩, a3⟩, a4⟩ := h
  have a4 := of_decide_eq_true a4
  refine ⟨WS_in (inC_mem a1) rfl, WS_in (inT_mem a2) rfl, fun q => ?_, fun q => ?_, a4.1, a4.2.1, ⟨a4.2.2.1, a4.2.2.2.1, a4.2.2.2.2.1⟩, a4.2.2.2.2.2⟩
  · rw [q] at a3
    exact WS_in (inT_mem a3) rfl
  · rw [q] at a3
    simp only [cond_false, Bool.and_eq_true] at a3
    exact ⟨WS_in (inT_mem a3.1) rfl, WS_in (inT_mem a3.2) rfl⟩
theorem ml_at {m idx m' : Nat} (h : mls.any (fun e => Nat.beq e.1 (mcl m) && Nat.beq e.2.1 idx && Nat.beq e.2.2.1 m') = true) : Cond.methodLink (cnm (mcl m)) idx (myn m') ∈ WS := by
  obtain ⟨q, hq, hd⟩ := List.any_eq_true.mp h
  simp only [Bool.and_eq_true] at hd
  obtain ⟨⟨h1, h2⟩, h3⟩ := hd
  have ho := List.all_eq_true.mp okl_all q hq
  unfold okl at ho
  rw [Nat.eq_of_beq_eq_true h1, Nat.eq_of_beq_eq_true h2, Nat.eq_of_beq_eq_true h3] at ho
  exact WS_in (inT_mem ho) rfl
theorem WS_good {w : Cond} (h : w ∈ WS) : (w.onTables && w.keeps) = true ∨ ∃ ty, w = .arrayClass ty := good_of_word (List.mem_filter.mp h).2
theorem good_wsm {m : Nat} (h1 : 1 ≤ m) (h2 : m ≤ 371) : GoodIn WS (wsm m) := fun w hw => (List.mem_cons.mp hw).elim (fun h => by rw [h]; exact ⟨(md_of h1 h2).1, WS_good (md_of h1 h2).1⟩) (fun h => ⟨h, WS_good h⟩)
theorem cat_map (α : Nat → Nat → Nat) : ∀ S : List AV, ((S.map (conc α)).map fun v => v.category).sum = asum S
  | [] => rfl
  | v :: S => by
    show ((conc α v).category :: ((S.map (conc α)).map fun v => v.category)).sum = acat v + asum S
    rw [List.sum_cons, cat_conc, cat_map α S]
theorem lv_room' {mi : MethodId} {pc : Nat} {ls : Array Slot} {rest : List Value} {k : Nat} (h : k ≤ 8) : 2 * (F0 mi pc ls rest).monitorRoom + k ≤ 8 := by
  show 2 * 0 + _ ≤ 8
  omega
section SND5
variable {p : Program} {l : Launch} {e : Env} {R : Room} {s : State} {mi : MethodId} {args : Array Value} {below : List Frame} {meth : Method} {c : Code} {cells slots : Nat} {Q : State → Prop} {α : Nat → Nat → Nat} {cT : Nat → ClassId} {D : va_G} {adV : Nat → Nat} {scr : Bool} {xs : Nat → Int32} {Ln m : Nat} {K : AK} {z : AR}
variable {pc : Nat} {L : AL} {S : List AV} {σ : St} {H : Heap} {locs : List Loc} {ls : Array Slot}
theorem vaD_wl {A : Nat → Prop} {σ σ' : St} (h : va_D A (wl α cT σ)) : va_D A (wl α cT σ') := by
  have key : ∀ (k : Nat) (q : Nat × va_E), (wl α cT σ')[k]? = some q → ∃ q', (wl α cT σ)[k]? = some q' ∧ q'.1 = q.1 := by
    intro k q hq
    unfold wl at hq ⊢
    rw [List.getElem?_map] at hq ⊢
    cases hd : dom[k]? with
    | none => rw [hd] at hq; cases hq
    | some x =>
      rw [hd] at hq
      cases hq
      exact ⟨_, rfl, rfl⟩
  refine ⟨fun i j a b ha hb hab => ?_, fun k q hq => ?_⟩
  · obtain ⟨a', h1, h2⟩ := key i a ha
    obtain ⟨b', h3, h4⟩ := key j b hb
    exact h.1 i j a' b' h1 h3 (h2.trans (hab.trans h4.symm))
  · obtain ⟨q', h1, h2⟩ := key k q hq
    rw [← h2]
    exact h.2 k q' h1
theorem AA_mono {a b : Nat} (h : a ≤ b) : ∀ q, AA α b q → AA α a q := fun q hq => hq.elim Or.inl (fun z => Or.inr (Nat.le_trans h z))
/-- behind a call -/
theorem run_W {σ' : St} {res : Option AV} {rest : List Value} {st0 : List Value} {a : Array Value} (hr : va_Run p l e R s mi args below meth c H locs cells slots 0 0 (F0 mi pc ls st0) rest (QM α cT D res σ' H.size a) (AA α H.size)) (hI : IW α cT D s scr xs Ln σ H locs) (hk : ∀ i j, gI σ' 497 i j = gI σ 497 i j)
    (kk : ∀ H1 locs1, IW α cT D s scr xs Ln σ' H1 locs1 → W p l e R s mi args below meth c H1 locs1 cells slots Q (F0 mi (pc + 3) ls ((res.map (conc α)).toList ++ rest))) : W p l e R s mi args below meth c H locs cells slots Q (F0 mi pc ls st0) := by
  intro T hT X
  obtain ⟨v, st₀, t, T', L', h0, X', hL', e1, e2, ⟨hv, hP, hz, hfr⟩, st⟩ := hr T hT X
  cases hv
  rw [h0] at hz hfr
  have hsz : s.heap.size ≤ H.size := hI.2.2.1.1
  obtain ⟨t2, a1, b1⟩ := kk T'.heap (locs ++ L') ⟨by rw [e1]; exact hP, vaD_wl hI.2.1, ⟨by rw [e1]; exact Nat.le_trans hsz hz, fun q h1 h2 => by
      rw [e1, hfr q (Nat.lt_of_lt_of_le h1 hsz) (fun z => h2 (AA_mono hsz q z))]
      exact hI.2.2.1.2.1 q h1 h2, fun q hq => by
      rcases List.mem_append.mp hq with h | h
      · exact hI.2.2.1.2.2 q h
      · exact AA_mono hsz _ (hL' q h)⟩, fun hs => ⟨fun j hj => by rw [hk]; exact (hI.2.2.2 hs).1 j hj, by rw [hk]; exact (hI.2.2.2 hs).2⟩⟩ T' rfl X'
  exact ⟨t2, st t2 a1, b1⟩
theorem pre_of (X : CX p s mi args c α cT D adV scr xs Ln m) (hI : IW α cT D s scr xs Ln σ H locs) {U : State} (hU : U.heap = H) (hW : s.WarmedH U.vm) : PreM α cT D adV σ H.size U := by
  obtain ⟨-, -, -, -, -, hKK, hvk, -⟩ := X
  have hsz : s.heap.size ≤ H.size := hI.2.2.1.1
  refine ⟨by rw [hU], by rw [hU]; exact hI.1, hKK.moved hW, ⟨hI.2.1.1, fun k q hq => ?_⟩, ?_⟩
  · obtain ⟨t, i⟩ := q
    unfold wl at hq
    rw [List.getElem?_map] at hq
    cases hd : dom[k]? with
    | none => rw [hd] at hq; cases hq
    | some x =>
      rw [hd] at hq
      cases hq
      exact Or.inl ⟨x, List.mem_of_getElem? hd, rfl⟩
  · have h1 := (hvk.kept hI.2.2.1.2.1).narrow (AA_mono (α := α) hsz)
    rw [hU]
    exact h1.moved hW.alike
theorem blind_M {a : List Value} {sz : Nat} : FrameBlind (va_Pc a (PreM α cT D adV σ sz)) := by
  intro a' U g mk h
  obtain ⟨h0, h1, h2, h3, h4, h5⟩ := h
  exact ⟨h0, h1, h2, h3.same rfl, h4, h5.moved (Vm.Alike.refl U.vm)⟩
theorem nscr_ok : ∀ (A : List AV), nscr A = true → (∀ v ∈ A, okv scr v) → ∀ v ∈ A, okv false v
  | [], _, _, v, hv => by cases hv
  | .inl x :: A, hn, hA, v, hv => by
    rcases List.mem_cons.mp hv with rfl | hv
    · exact trivial
    · exact nscr_ok A hn (okS_tail hA) v hv
  | .inr (.inl x) :: A, hn, hA, v, hv => by
    rcases List.mem_cons.mp hv with rfl | hv
    · exact trivial
    · exact nscr_ok A hn (okS_tail hA) v hv
  | .inr (.inr (tq, iq)) :: A, hn, hA, v, hv => by
    have hn2 : (!(Nat.beq tq 497) && nscr A) = true := hn
    rw [Bool.and_eq_true] at hn2
    clear hn
    rcases List.mem_cons.mp hv with rfl | hv
    · have ho : okr scr (tq, iq) := hA _ List.mem_cons_self
      rcases ho with ho | ho | ⟨-, ho⟩
      · exact Or.inl ho
      · exact Or.inr (Or.inl ho)
      · cases ho
        have hn3 := hn2.1
        simp at hn3
    · exact nscr_ok A hn2.2 (okS_tail hA) v hv
theorem snd_inv (X : CX p s mi args c α cT D adV scr xs Ln m) {C : AC} (hC : CS l α cT D adV C) (hCk : CK C) (hK : KS p l e R s mi args below meth c cells slots Q α cT D scr xs Ln (maxL m) K z) {r idx m' n rt : Nat} {vt : Bool} {cl : Nat} (hd : (vt = true ∧ decode (mbt m) pc = .ok (.invokevirtual idx, 3)) ∨ (vt = false ∧ decode (mbt m) pc = .ok (.invokestatic idx, 3))) (hok : okc1 m idx m' n rt vt = true)
    (hR : lev m + r ≤ R.frames ∧ 64 * (lev m + r) ≤ R.locals ∧ cells ≤ R.cells ∧ slots ≤ R.slots) (hrec : vt = true → cl = mcl m' ∧ cl < 13 ∧ ∃ t i S1, S.drop (n - 1) = .inr (.inr (t, i)) :: S1 ∧ t = 8 * cl)
    (h : inv K C m r (pc + 3) L S σ [m', n, rt] = some z) (hS : ∀ v ∈ S, okv scr v) (hL : ∀ v, some v ∈ L → okv scr v) (hn : L.length = maxL m) (hI : IW α cT D s scr xs Ln σ H locs) (hl : lv_has ls (maxL m) (lvl α 0 L)) : W p l e R s mi args below meth c H locs cells slots Q (F0 mi pc ls (S.map (conc α))) := by
  have X0 := X
  obtain ⟨hx, hb, hml, hown, hts, hKK, hvk, hsc⟩ := X
  unfold okc1 at hok
  rw [Bool.and_eq_true] at hok
  obtain ⟨hlink, hdd⟩ := hok
  obtain ⟨d1, d2, d3, d4, d5, d6⟩ := of_decide_eq_true hdd
  obtain ⟨w1, w2, w3, w4, w5, w6, w7, w8⟩ := md_of d4 d5
  unfold inv at h
  dsimp only at h
  cases hc1 : (Nat.ble n S.length && Nat.ble (asum (S.drop n)) 8 && nscr (S.take n))
  · rw [hc1] at h; cases h
  rw [hc1] at h
  simp only [cond_true] at h
  rw [Bool.and_eq_true, Bool.and_eq_true] at hc1
  have hnl := Nat.le_of_ble_eq_true hc1.1.1
  have has := Nat.le_of_ble_eq_true hc1.1.2
  have hnos := nscr_ok (S.take n) hc1.2 (fun v hv => hS v (List.mem_of_mem_take hv))
  cases hbud : bud m r m' with
  | none => rw [hbud] at h; cases h
  | some r' =>
    rw [hbud] at h
    have hμ : lev m' + r' < lev m + r := by
      unfold bud at hbud
      cases hq : Nat.beq m' m
      · rw [hq] at hbud
        cases hbud
        rcases d6 with d6 | d6
        · rw [d6] at hq
          simp at hq
        · omega
      · rw [hq] at hbud
        have hq := Nat.eq_of_beq_eq_true hq
        subst hq
        cases r with
        | zero => cases hbud
        | succ r0 =>
          cases hbud
          omega
    have hroom : (rmm (lev m' + r')).frames + 1 ≤ R.frames ∧ 8 + (maxL m' + 11) + (rmm (lev m' + r')).locals ≤ R.locals := by
      show lev m' + r' + 1 ≤ R.frames ∧ 8 + (maxL m' + 11) + 64 * (lev m' + r') ≤ R.locals
      have := hR.1
      have := hR.2.1
      omega
    -- the stack: what is left, and the arguments
    have hst : S.map (conc α) = ((S.take n).reverse.map (conc α)).reverse ++ (S.drop n).map (conc α) := by
      rw [← List.map_reverse, List.reverse_reverse, ← List.map_append, List.take_append_drop]
    have hrest : 2 * (F0 mi pc ls (S.map (conc α))).monitorRoom + (((S.drop n).map (conc α)).map fun v => v.category).sum ≤ 8 := by
      rw [cat_map]
      exact lv_room' has
    -- the call itself
    have go : ∀ (res : Option AV) (σ' : St), C m' r' (S.take n).reverse σ = some (res, σ') → (∀ H1 locs1, IW α cT D s scr xs Ln σ' H1 locs1 → W p l e R s mi args below meth c H1 locs1 cells slots Q (F0 mi (pc + 3) ls ((res.map (conc α)).toList ++ (S.drop n).map (conc α)))) → W p l e R s mi args below meth c H locs cells slots Q (F0 mi pc ls (S.map (conc α))) := by
      intro res σ' hcall kk
      have hM := hC m' r' _ σ res σ' hcall d4 d5 (fun v hv => hnos v (List.mem_reverse.mp hv)) H.size
      have hfix : CallFix p mi c (mbt m) (maxL m) s args WS (cnm (mcl m)) := ⟨hx, hb, hml, hown, hts⟩
      have hfc : cells + 0 ≤ R.cells ∧ slots + 0 ≤ R.slots := hR.2.2
      cases vt with
      | false =>
        have hd : decode (mbt m) pc = .ok (.invokestatic idx, 3) := by
          rcases hd with ⟨hd, -⟩ | ⟨-, hd⟩
          · cases hd
          · exact hd
        have hstat := w3 (by rw [d1]; rfl)
        have hpre : PreS s H (va_Pc ((S.take n).reverse.map (conc α)) (PreM α cT D adV σ H.size)) ((S.take n).reverse.map (conc α)) := ⟨blind_M, fun U hU hW => ⟨rfl, pre_of X0 hI hU hW⟩⟩
        have hlen : ((S.take n).reverse.map (conc α)).length = mnp m' := by
          rw [List.length_map, List.length_reverse, List.length_take, Nat.min_eq_left hnl, d2]
          rfl
        rw [Bool.or_eq_true] at hlink
        rcases hlink with hlink | hlink
        · have hlk := ml_at hlink
          have cw := va_cwS (R := R) (own := cnm (mcl m)) (index := idx) (mc := 0) (ms := 0) (rm := rmm (lev m' + r')) (ws := wsm m') (mnp m') hts (fun w hw => by
            rcases List.mem_append.mp (show w ∈ ([.methodLink (cnm (mcl m)) idx (myn m'), .static (myn m'), .initialized (myn m').cls] : List Cond) ++ wsm m' from hw) with h | h
            · simp only [List.mem_cons, List.not_mem_nil, or_false] at h
              rcases h with rfl | rfl | rfl
              · exact ⟨hlk, WS_good hlk⟩
              · exact ⟨hstat, WS_good hstat⟩
              · exact ⟨w2, WS_good w2⟩
            · exact good_wsm d4 d5 w h) rfl rfl rfl w7 hroom
          exact run_W (va_runS (As := (S.take n).reverse.map (conc α)) (rest := (S.drop n).map (conc α)) hfix hM cw hpre rfl hlen hl.1 hst hrest hd hfc) hI (hCk _ _ _ _ _ _ hcall) kk
        · rw [Bool.and_eq_true] at hlink
          obtain ⟨q, hq, hqd⟩ := List.any_eq_true.mp hlink.2
          simp only [Bool.and_eq_true] at hqd
          obtain ⟨⟨g1, g2⟩, g3⟩ := hqd
          have hnw := hKK.2.1 q hq
          unfold nwd at hnw
          rw [Nat.eq_of_beq_eq_true g1, Nat.eq_of_beq_eq_true g2, Nat.eq_of_beq_eq_true g3] at hnw
          have cw := va_cnB (R := R) (own := cnm (mcl m)) (index := idx) (mc := 0) (ms := 0) (rm := rmm (lev m' + r')) (ws := wsm m') (mnp m') hts (good_wsm d4 d5) rfl rfl rfl hnw (hts _ w2) w7 hroom
          exact run_W (va_runSN (As := (S.take n).reverse.map (conc α)) (rest := (S.drop n).map (conc α)) hfix hM ⟨cw, hts _ hstat, trivial⟩ hpre rfl hlen hl.1 hst hrest hd hfc) hI (hCk _ _ _ _ _ _ hcall) kk
      | true =>
        have hd : decode (mbt m) pc = .ok (.invokevirtual idx, 3) := by
          rcases hd with ⟨-, hd⟩ | ⟨hd, -⟩
          · exact hd
          · cases hd
        obtain ⟨hcl, hcl13, t, i, S1, hdrop, ht⟩ := hrec rfl
        subst ht
        have hinst := w4 (by rw [d1]; rfl)
        have hn1 : n = mnp m' + 1 := d2
        -- the receiver
        have htake : S.take n = S.take (n - 1) ++ [.inr (.inr (8 * cl, i))] := by
          have h1 : n = n - 1 + 1 := by omega
          have h2 : n - 1 < S.length := by omega
          have h3 : S[n - 1] = .inr (.inr (8 * cl, i)) := by
            have h4 : (S.drop (n - 1))[0]? = some (.inr (.inr (8 * cl, i))) := by rw [hdrop]; rfl
            rw [List.getElem?_drop] at h4
            rw [Nat.add_zero, List.getElem?_eq_getElem h2] at h4
            exact Option.some.inj h4
          conv => lhs; rw [h1]
          rw [List.take_succ_eq_append_getElem h2, h3]
        have hargs : (S.take n).reverse = .inr (.inr (8 * cl, i)) :: (S.take (n - 1)).reverse := by
          rw [htake, List.reverse_append]
          rfl
        have hin : (8 * cl, i) ∈ dom := by
          obtain ⟨-, -, g3, g4⟩ := tag_obj hcl13
          have hv : okv scr (.inr (.inr (8 * cl, i))) := hS (.inr (.inr (8 * cl, i))) (List.mem_of_mem_take (i := n) (by rw [htake]; exact List.mem_append_right _ List.mem_cons_self))
          exact okr_dom (scr := scr) hv g3 g4
        obtain ⟨q0, hq0⟩ := dom_at hin
        have hat := wl_at (α := α) (cT := cT) (σ := σ) hq0
        rw [ce_obj hcl13] at hat
        have hrecv := va_recv hKK.1 hI.1 (Tc_at hcl13) hat
        have hcnm : (Tc cl).1 = cnm (mcl m') := by
          rw [← hcl]
          match cl, hcl13 with
          | 0, _ => rfl
          | 1, _ => rfl
          | 2, _ => rfl
          | 3, _ => rfl
          | 4, _ => rfl
          | 5, _ => rfl
          | 6, _ => rfl
          | 7, _ => rfl
          | 8, _ => rfl
          | 9, _ => rfl
          | 10, _ => rfl
          | 11, _ => rfl
          | 12, _ => rfl
          | n + 13, h => omega
        have hpre : PreV s H (myn m').cls (α (8 * cl) i) (va_Pc ((S.take n).reverse.map (conc α)) (PreM α cT D adV σ H.size)) ((S.take (n - 1)).reverse.map (conc α)) := ⟨blind_M, by rw [w5, ← hcnm]; exact hrecv, fun U hU hW => ⟨by rw [hargs]; rfl, pre_of X0 hI hU hW⟩⟩
        have hlen : ((S.take (n - 1)).reverse.map (conc α)).length = mnp m' := by
          rw [List.length_map, List.length_reverse, List.length_take, Nat.min_eq_left (by omega)]
          omega
        have hst2 : S.map (conc α) = ((S.take (n - 1)).reverse.map (conc α)).reverse ++ .ref (α (8 * cl) i) :: (S.drop n).map (conc α) := by
          rw [hst, hargs]
          simp [conc]
        rw [Bool.or_eq_true] at hlink
        rcases hlink with hlink | hlink
        · have hlk := ml_at hlink
          have cw := cwV (R := R) (own := cnm (mcl m)) (C := (myn m').cls) (index := idx) (mc := 0) (ms := 0) (rm := rmm (lev m' + r')) (ws := wsm m') (mnp m') hts (fun w hw => by
            rcases List.mem_append.mp (show w ∈ ([.methodLink (cnm (mcl m)) idx (myn m'), .instanceMethod (myn m'), .selects (myn m').cls (myn m') (myn m'), .initialized (myn m').cls] : List Cond) ++ wsm m' from hw) with h | h
            · simp only [List.mem_cons, List.not_mem_nil, or_false] at h
              rcases h with rfl | rfl | rfl | rfl
              · exact ⟨hlk, WS_good hlk⟩
              · exact ⟨hinst.1, WS_good hinst.1⟩
              · exact ⟨hinst.2, WS_good hinst.2⟩
              · exact ⟨w2, WS_good w2⟩
            · exact good_wsm d4 d5 w h) rfl rfl rfl ⟨rfl, w7⟩ hroom
          exact run_W (va_runV (As := (S.take (n - 1)).reverse.map (conc α)) (rest := (S.drop n).map (conc α)) hfix hM cw hpre rfl hlen hl.1 hst2 hrest hd hfc) hI (hCk _ _ _ _ _ _ hcall) kk
        · rw [Bool.and_eq_true] at hlink
          cases hlink.1
    -- by what it answers
    have hSd : ∀ v ∈ S.drop n, okv scr v := fun v hv => hS v (List.mem_of_mem_drop hv)
    dsimp only at h
    split at h
    · obtain ⟨σ', hcall, hz⟩ := cV_iff.mp h
      exact go none σ' hcall (fun H1 locs1 hI1 => hK _ _ _ _ hz hSd hL hn H1 locs1 ls hI1 hl)
    · obtain ⟨x, σ', hcall, hz⟩ := cI_iff.mp h
      exact go (some (.inl x)) σ' hcall (fun H1 locs1 hI1 => hK _ _ _ _ hz (okS_cons trivial hSd) hL hn H1 locs1 ls hI1 hl)
    · obtain ⟨x, σ', hcall, hz⟩ := cL_iff.mp h
      exact go (some (.inr (.inl x))) σ' hcall (fun H1 locs1 hI1 => hK _ _ _ _ hz (okS_cons trivial hSd) hL hn H1 locs1 ls hI1 hl)
end SND5
