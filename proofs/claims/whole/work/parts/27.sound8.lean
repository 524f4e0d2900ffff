/-! a method, by its depth -/
/-- what keeps the script -/
def Kp (F : AK → AC → Option AR) (σ : St) : Prop := ∀ K C, (∀ pc L S σ1 z, K pc L S σ1 = some z → ∀ i j, gI z.2 497 i j = gI σ1 497 i j) → CK C → ∀ z, F K C = some z → ∀ i j, gI z.2 497 i j = gI σ 497 i j
theorem kp_none (σ : St) : Kp (fun _ _ => none) σ := fun _ _ _ _ _ h => by cases h
theorem kp_some (v : Option AV) (σ : St) : Kp (fun _ _ => some (v, σ)) σ := fun _ _ _ _ _ h => by cases h; exact fun _ _ => rfl
theorem kp_K (pc : Nat) (L : AL) (S : List AV) {σ σ1 : St} (h : ∀ i j, gI σ1 497 i j = gI σ 497 i j) : Kp (fun K _ => K pc L S σ1) σ := fun _ _ hK _ z hz i j => (hK _ _ _ _ z hz i j).trans (h i j)
theorem kp_ite {c : Prop} (d : Decidable c) {F G : AK → AC → Option AR} {σ : St} (hF : c → Kp F σ) (hG : ¬ c → Kp G σ) : Kp (fun K C => if c then F K C else G K C) σ := by
  by_cases h : c
  · simp only [if_pos h]; exact hF h
  · simp only [if_neg h]; exact hG h
theorem kp_cond {b : Bool} {F G : AK → AC → Option AR} {σ : St} (hF : b = true → Kp F σ) (hG : b = false → Kp G σ) : Kp (fun K C => cond b (F K C) (G K C)) σ := by
  cases b
  · exact hG rfl
  · exact hF rfl
theorem kp_ix {j : Int32} {n : Nat} {F : Nat → AK → AC → Option AR} {σ : St} (hF : ∀ k, Kp (F k) σ) : Kp (fun K C => ix j n (fun k => F k K C)) σ := by
  unfold ix
  exact kp_ite _ (fun _ => kp_none σ) (fun _ => hF _)
theorem kp_cI {m r : Nat} {a : List AV} {σ : St} {F : Int32 → St → AK → AC → Option AR} (hF : ∀ x s1, Kp (F x s1) s1) : Kp (fun K C => cI (C m r a σ) (fun x s1 => F x s1 K C)) σ := by
  intro K C hK hC z h i j
  obtain ⟨x, s1, h1, h2⟩ := cI_iff.mp h
  exact (hF x s1 K C hK hC z h2 i j).trans (hC _ _ _ _ _ _ h1 i j)
theorem kp_cL {m r : Nat} {a : List AV} {σ : St} {F : Int64 → St → AK → AC → Option AR} (hF : ∀ x s1, Kp (F x s1) s1) : Kp (fun K C => cL (C m r a σ) (fun x s1 => F x s1 K C)) σ := by
  intro K C hK hC z h i j
  obtain ⟨x, s1, h1, h2⟩ := cL_iff.mp h
  exact (hF x s1 K C hK hC z h2 i j).trans (hC _ _ _ _ _ _ h1 i j)
theorem kp_cV {m r : Nat} {a : List AV} {σ : St} {F : St → AK → AC → Option AR} (hF : ∀ s1, Kp (F s1) s1) : Kp (fun K C => cV (C m r a σ) (fun s1 => F s1 K C)) σ := by
  intro K C hK hC z h i j
  obtain ⟨s1, h1, h2⟩ := cV_iff.mp h
  exact (hF s1 K C hK hC z h2 i j).trans (hC _ _ _ _ _ _ h1 i j)
theorem ns_sI {σ : St} {t i k : Nat} {x : Int32} (ht : t ≠ 497) : ∀ i' j', gI (sI σ t i k x) 497 i' j' = gI σ 497 i' j' := fun i' j' => by rw [gI_sI, if_neg (fun z => ht z.1.symm)]
theorem ns_cp {σ : St} {t1 i1 p1 t2 i2 p2 n : Nat} (ht : t2 ≠ 497) : ∀ i' j', gI (cpI σ t1 i1 p1 t2 i2 p2 n) 497 i' j' = gI σ 497 i' j' := fun i' j' => by rw [gI_cpI, if_neg (fun z => ht z.1.symm)]
theorem ns_obj {t c : Nat} (h : Nat.beq t (8 * c) = true) : t ≠ 497 := fun q => by
  have := Nat.eq_of_beq_eq_true h
  omega
theorem kp_gtF {pc : Nat} {L : AL} {S : List AV} {σ : St} {ys : List Nat} : Kp (fun K _ => gtF K pc L S σ ys) σ := by
  unfold gtF
  split
  · refine kp_cond (fun _ => ?_) (fun _ => kp_none σ)
    split <;> exact kp_K _ _ _ (fun _ _ => rfl)
  · exact kp_cond (fun _ => kp_K _ _ _ (fun _ _ => rfl)) (fun _ => kp_none σ)
  · exact kp_none σ
theorem kp_ptF {pc : Nat} {L : AL} {S : List AV} {σ : St} {ys : List Nat} : Kp (fun K _ => ptF K pc L S σ ys) σ := by
  unfold ptF
  split
  · refine kp_cond (fun hq => ?_) (fun _ => kp_none σ)
    split
    · exact kp_K _ _ _ (ns_sI (ns_obj hq))
    · exact kp_ite _ (fun _ => kp_K _ _ _ (ns_sI (ns_obj hq))) (fun _ => kp_none σ)
    · exact kp_none σ
  · exact kp_cond (fun _ => kp_K _ _ _ (fun _ _ => rfl)) (fun _ => kp_none σ)
  · exact kp_none σ
theorem kp_cpA {pc : Nat} {L : AL} {S : List AV} {σ : St} : Kp (fun K _ => cpA K pc L S σ) σ := by
  unfold cpA
  split
  · refine kp_ite _ (fun _ => ?_) (fun _ => kp_none σ)
    refine kp_cond (fun hq => ?_) (fun _ => ?_)
    · simp only [Bool.and_eq_true, Bool.not_eq_true'] at hq
      exact kp_K _ _ _ (ns_cp (fun q => by have := hq.2; rw [q] at this; simp at this))
    · exact kp_cond (fun _ => kp_K _ _ _ (fun _ _ => rfl)) (fun _ => kp_none σ)
  · exact kp_none σ
theorem kp_inv {m r pc : Nat} {L : AL} {S : List AV} {σ : St} {ys : List Nat} : Kp (fun K C => inv K C m r pc L S σ ys) σ := by
  unfold inv
  split
  · refine kp_cond (fun _ => ?_) (fun _ => kp_none σ)
    split
    · exact kp_none σ
    · split
      · exact kp_cV (fun s1 => kp_K _ _ _ (fun _ _ => rfl))
      · exact kp_cI (fun x s1 => kp_K _ _ _ (fun _ _ => rfl))
      · exact kp_cL (fun x s1 => kp_K _ _ _ (fun _ _ => rfl))
  · exact kp_none σ
theorem kp_prm {pc : Nat} {L : AL} {S : List AV} {σ : St} {w : Nat} : Kp (fun K _ => prm K pc L S σ w) σ := by
  unfold prm
  split
  · exact kp_cpA
  · split
    · exact kp_cond (fun _ => kp_K _ _ _ (fun _ _ => rfl)) (fun _ => kp_none σ)
    · exact kp_none σ
  · split
    · exact kp_cond (fun _ => kp_ix (fun _ => kp_K _ _ _ (fun _ _ => rfl))) (fun _ => kp_none σ)
    · exact kp_none σ
  · unfold mmI
    split
    · exact kp_cond (fun _ => kp_K _ _ _ (fun _ _ => rfl)) (fun _ => kp_none σ)
    · exact kp_none σ
  · unfold mmI
    split
    · exact kp_cond (fun _ => kp_K _ _ _ (fun _ _ => rfl)) (fun _ => kp_none σ)
    · exact kp_none σ
theorem kp_bast {pc : Nat} {L : AL} {S : List AV} {σ : St} : Kp (fun K _ => match S with
    | .inl x :: .inl j :: .inr (.inr (t, i)) :: S' => cond (Nat.beq (lk t) 3) (ix j (ln t i) (fun k => K pc L S' (sI σ t i k x.toInt8.toInt32))) (cond (Nat.beq (lk t) 4) (if x = 0 ∨ x = 1 then ix j (ln t i) (fun k => K pc L S' (sI σ t i k x)) else none) none)
    | _ => none) σ := by
  split
  · refine kp_cond (fun hq => kp_ix (fun k => kp_K _ _ _ (ns_sI (lk_notScr hq (by decide))))) (fun _ => ?_)
    exact kp_cond (fun hq => kp_ite _ (fun _ => kp_ix (fun k => kp_K _ _ _ (ns_sI (lk_notScr hq (by decide))))) (fun _ => kp_none σ)) (fun _ => kp_none σ)
  · exact kp_none σ
theorem kp_iast {pc : Nat} {L : AL} {S : List AV} {σ : St} : Kp (fun K _ => match S with
    | .inl x :: .inl j :: .inr (.inr (t, i)) :: S' => cond (Nat.beq (lk t) 1 && !(Nat.beq t 497)) (ix j (ln t i) (fun k => K pc L S' (sI σ t i k x))) none
    | _ => none) σ := by
  split
  · refine kp_cond (fun hq => kp_ix (fun k => kp_K _ _ _ (ns_sI (fun q => ?_)))) (fun _ => kp_none σ)
    rw [Bool.and_eq_true] at hq
    have := hq.2
    rw [q] at this
    simp at this
  · exact kp_none σ
theorem kp_jmp {L : AL} {S : List AV} {σ : St} {x : Int32} {d : Nat} : ∀ (ts : List Nat) (lo : Int), Kp (fun K _ => jmp K L S σ x d lo ts) σ
  | [], _ => kp_K _ _ _ (fun _ _ => rfl)
  | t :: ts, lo => kp_ite _ (fun _ => kp_K _ _ _ (fun _ _ => rfl)) (fun _ => kp_jmp ts (lo + 1))
set_option maxHeartbeats 4000000 in
theorem kp_step (m r pc : Nat) (L : AL) (S : List AV) (σ : St) : Kp (fun K C => stepF K C m r pc L S σ) σ := by
  unfold stepF
  split
  · exact kp_none σ
  · next ins len xs cv e =>
    clear e
    unfold stepI
    cases ins
    case tableswitch =>
      dsimp only
      split
      · exact kp_jmp _ _
      · exact kp_none σ
    case bastore => exact kp_bast
    case iastore => exact kp_iast
    case getfield => exact kp_gtF
    case putfield => exact kp_ptF
    case invokestatic =>
      dsimp only
      split
      · exact kp_prm
      · exact kp_inv
    case invokevirtual =>
      dsimp only
      split
      · exact kp_prm
      · unfold inw
        split
        · exact kp_cond (fun _ => kp_inv) (fun _ => kp_none σ)
        · exact kp_none σ
      · exact kp_none σ
    all_goals dsimp only
    all_goals (try exact kp_none σ)
    all_goals (try exact kp_K _ _ _ (fun _ _ => rfl))
    all_goals (try simp only [ldI, ldL, ldA, stI, stL, stA, biI, biL, dvI, dvL, br1, br2, retZ])
    all_goals repeat' first
      | exact kp_none σ
      | exact kp_some _ σ
      | exact kp_K _ _ _ (fun _ _ => rfl)
      | refine kp_ite _ (fun _ => ?_) (fun _ => ?_)
      | refine kp_ix (fun _ => ?_)
      | refine kp_cond (fun hq => ?_) (fun _ => ?_)
      | split
theorem kp_exec {C : AC} (hC : CK C) (m r : Nat) : ∀ n pc L S σ z, exec C m r n pc L S σ = some z → ∀ i j, gI z.2 497 i j = gI σ 497 i j
  | 0, _, _, _, _, _, h => by cases h
  | n + 1, pc, L, S, σ, z, h => kp_step m r pc L S σ _ _ (kp_exec hC m r n) hC z h
theorem ck_run (N : Nat) : ∀ d, CK (run N d)
  | 0 => fun _ _ _ _ _ _ h => by cases h
  | d + 1 => fun m r a σ res σ' h => by
    have h : cond (Nat.ble (entL a).length (maxL m)) (exec (run N d) m r N 0 (entry m a) [] σ) none = some (res, σ') := h
    cases hq : Nat.ble (entL a).length (maxL m)
    · rw [hq] at h; cases h
    · rw [hq] at h
      exact kp_exec (ck_run N d) m r N _ _ _ _ _ h
theorem ck_Cc : CK Cc := fun m r a σ res σ' h => by
  obtain ⟨n, h⟩ := Cc_iff.mp h
  exact ck_run n n m r a σ res σ' h
/-! the locals with which a method begins -/
theorem entL_get {j : Nat} {v : AV} : ∀ (a : List AV), (entL a)[j]? = some (some v) → v ∈ a
  | [], h => by simp [entL] at h
  | .inl x :: l, h => by
    have h : (some (.inl x) :: entL l)[j]? = some (some v) := h
    cases j with
    | zero => simp at h; rw [← h]; exact List.mem_cons_self
    | succ j => exact List.mem_cons_of_mem _ (entL_get l (by simpa using h))
  | .inr (.inl x) :: l, h => by
    have h : (some (.inr (.inl x)) :: none :: entL l)[j]? = some (some v) := h
    cases j with
    | zero => simp at h; rw [← h]; exact List.mem_cons_self
    | succ j =>
      cases j with
      | zero => simp at h
      | succ j => exact List.mem_cons_of_mem _ (entL_get l (by simpa using h))
  | .inr (.inr q) :: l, h => by
    have h : (some (.inr (.inr q)) :: entL l)[j]? = some (some v) := h
    cases j with
    | zero => simp at h; rw [← h]; exact List.mem_cons_self
    | succ j => exact List.mem_cons_of_mem _ (entL_get l (by simpa using h))
theorem pad_len : ∀ (n : Nat) (L : AL), L.length ≤ n → (pad n L).length = n
  | 0, L, h => by
    show L.length = 0
    omega
  | n + 1, [], _ => by
    show (none :: pad n []).length = n + 1
    simp [pad_len n []]
  | n + 1, v :: L, h => by
    show (v :: pad n L).length = n + 1
    simp at h
    simp [pad_len n L h]
theorem pad_get {v : AV} : ∀ (n : Nat) (L : AL) (j : Nat), (pad n L)[j]? = some (some v) → L[j]? = some (some v)
  | 0, L, j, h => h
  | n + 1, [], j, h => by
    have h : (none :: pad n [])[j]? = some (some v) := h
    cases j with
    | zero => simp at h
    | succ j => exact absurd (pad_get n [] j (by simpa using h)) (by simp)
  | n + 1, u :: L, j, h => by
    have h : (u :: pad n L)[j]? = some (some v) := h
    cases j with
    | zero => simpa using h
    | succ j => simpa using pad_get n L j (by simpa using h)
theorem ent_words (α : Nat → Nat → Nat) : ∀ (a : List AV), (lg_sl (a.map (conc α))).length = (entL a).length
  | [] => rfl
  | v :: l => by
    have ih := ent_words α l
    have e1 : lg_sl ((v :: l).map (conc α)) = (if (conc α v).category = 2 then [.val (conc α v), .second] else [.val (conc α v)]) ++ lg_sl (l.map (conc α)) := rfl
    rw [e1, List.length_append, ih]
    rcases v with x | x | x
    · show 1 + _ = (some (.inl x) :: entL l).length
      simp; omega
    · show 2 + _ = (some (.inr (.inl x)) :: none :: entL l).length
      simp; omega
    · show 1 + _ = (some (.inr (.inr x)) :: entL l).length
      simp; omega
theorem ent_args (α : Nat → Nat → Nat) : ∀ (a : List AV) (i j : Nat) (v : AV), (entL a)[j]? = some (some v) → (i + j, conc α v) ∈ lv_args i (a.map (conc α))
  | [], i, j, v, h => by simp [entL] at h
  | .inl x :: l, i, j, v, h => by
    have h : (some (.inl x) :: entL l)[j]? = some (some v) := h
    show _ ∈ (i, conc α (.inl x)) :: lv_args (i + 1) (l.map (conc α))
    cases j with
    | zero => simp at h; rw [← h]; exact List.mem_cons_self
    | succ j =>
      have := ent_args α l (i + 1) j v (by simpa using h)
      rw [show i + (j + 1) = i + 1 + j by omega]
      exact List.mem_cons_of_mem _ this
  | .inr (.inl x) :: l, i, j, v, h => by
    have h : (some (.inr (.inl x)) :: none :: entL l)[j]? = some (some v) := h
    show _ ∈ (i, conc α (.inr (.inl x))) :: lv_args (i + 2) (l.map (conc α))
    cases j with
    | zero => simp at h; rw [← h]; exact List.mem_cons_self
    | succ j =>
      cases j with
      | zero => simp at h
      | succ j =>
        have := ent_args α l (i + 2) j v (by simpa using h)
        rw [show i + (j + 1 + 1) = i + 2 + j by omega]
        exact List.mem_cons_of_mem _ this
  | .inr (.inr q) :: l, i, j, v, h => by
    have h : (some (.inr (.inr q)) :: entL l)[j]? = some (some v) := h
    show _ ∈ (i, conc α (.inr (.inr q))) :: lv_args (i + 1) (l.map (conc α))
    cases j with
    | zero => simp at h; rw [← h]; exact List.mem_cons_self
    | succ j =>
      have := ent_args α l (i + 1) j v (by simpa using h)
      rw [show i + (j + 1) = i + 1 + j by omega]
      exact List.mem_cons_of_mem _ this
theorem ent_has (α : Nat → Nat → Nat) {m : Nat} {a : List AV} (h : (entL a).length ≤ maxL m) : lv_has ((lg_sl (a.map (conc α)) ++ List.replicate (maxL m - (lg_sl (a.map (conc α))).length) Slot.unset).toArray) (maxL m) (lvl α 0 (entry m a)) := by
  have h0 := lv_entry (a.map (conc α)) (n := maxL m) (by rw [ent_words]; exact h)
  refine ⟨h0.1, h0.2.1, fun q hq => h0.2.2 q ?_⟩
  obtain ⟨k, v, h1, rfl⟩ := (lvl_mem _ 0).mp hq
  exact ent_args α a 0 k v (pad_get _ _ _ h1)
/-- every code of the tables is checked -/
def CKALL : Prop := ∀ m, 1 ≤ m → m ≤ 371 → (tbs m).all (okE m) = true
theorem tbq_of {m : Nat} (h : m ≤ 371) (hc : (tbs m).all (okE m) = true) : ∀ pc, (tbq m pc).all (okE m) = true := fun pc => by
  unfold tbq
  cases hq : Nat.beq m 372
  · exact hc
  · exact absurd (Nat.eq_of_beq_eq_true hq) (by omega)
theorem snd_run (l : Launch) (α : Nat → Nat → Nat) (cT : Nat → ClassId) (D : va_G) (adV : Nat → Nat) (hall : CKALL) (hTX : TX l α cT D adV) (N : Nat) : ∀ d, CS l α cT D adV (run N d)
  | 0 => fun _ _ _ _ _ _ h => by cases h
  | d + 1 => fun m r a σ res σ' h h1 h2 ha sz => by
    have h : cond (Nat.ble (entL a).length (maxL m)) (exec (run N d) m r N 0 (entry m a) [] σ) none = some (res, σ') := h
    cases hq : Nat.ble (entL a).length (maxL m)
    · rw [hq] at h; cases h
    rw [hq] at h
    have hle := Nat.le_of_ble_eq_true hq
    obtain ⟨w1, w2, w3, w4, w5, w6, w7, w8⟩ := md_of h1 h2
    refine Met.ofW (cc := mbt m) (maxL := maxL m) (ret := mrt m) w6 rfl ?_
    intro p e s mi args below meth c s₁ B hml hv
    obtain ⟨rfl, hsz, hP, hKK, hD, hvk⟩ := hv
    subst hsz
    have hx := B.exec
    have hb := B.bytes
    have hr := B.returns
    have hts0 := atoms_spec (ws := wsm m) B.pre
    have hown : s.vm.findClass (myn m).cls = some mi.cls := findClass_of_methodNamed B.named
    have hlocks := B.notSynchronized
    have X : CX p s mi (a.map (conc α)).toArray c α cT D adV false (fun _ => 0) 0 m := ⟨hx, hb, hml, by rw [← w5]; exact hown, fun w hw => hts0 w (List.mem_cons_of_mem _ hw), hKK, hvk, fun q => by cases q⟩
    have hI : IW α cT D s false (fun _ => 0) 0 σ s.heap [] := ⟨hP, hD, va_S.rf, fun q => by cases q⟩
    rw [lg_entry_eq]
    have hret : RT p l e (headSpec (wsm m) (rmm (lev m + r))).room s mi (a.map (conc α)).toArray below meth c 0 0 (MQ below (QM α cT D res σ' s.heap.size) (a.map (conc α)).toArray s 0 0 (AA α s.heap.size)) α cT D false (fun _ => 0) 0 m (res, σ') := by
      intro pc σ1 H locs ls hI1 hz
      have hz : σ' = σ1 := hz
      subst hz
      refine ⟨fun x hres hd hrt => ?_, fun x hres hd hrt => ?_, fun hres hd hrt => ?_⟩
      · have hres : res = some (.inl x) := hres
        subst hres
        rcases hrt with hrt | ⟨hrt, h01⟩
        · exact W.iret hx hb (by rw [hr]; exact hrt) (fun t ht hW => ⟨rfl, by rw [ht]; exact hI1.1, hI1.2.2.1.F ht⟩) hI1.2.2.1.2.2 hd
        · exact W.zret (ty := .boolean) hx hb (by rw [hr]; exact hrt) (bool01 h01).1 (fun t ht hW => ⟨rfl, by rw [ht]; exact hI1.1, hI1.2.2.1.F ht⟩) hI1.2.2.1.2.2 hd
      · have hres : res = some (.inr (.inl x)) := hres
        subst hres
        exact W.lret hx hb (by rw [hr]; exact hrt) (fun t ht hW => ⟨rfl, by rw [ht]; exact hI1.1, hI1.2.2.1.F ht⟩) hI1.2.2.1.2.2 hd
      · have hres : res = none := hres
        subst hres
        exact W.vret hx hb (by rw [hr]; exact hrt) (fun t ht hW => ⟨rfl, by rw [ht]; exact hI1.1, hI1.2.2.1.F ht⟩) hI1.2.2.1.2.2 hd
    refine snd_exec (z := (res, σ')) X (snd_run l α cT D adV hall hTX N d) (ck_run N d) hTX hret (r := r) ⟨Nat.le_refl _, Nat.le_refl _, Nat.le_refl _, Nat.le_refl _⟩ (tbq_of h2 (hall m h1 h2)) N 0 (entry m a) [] σ h (fun v hv => by cases hv) (fun v hv => ?_) (pad_len _ _ hle) s.heap [] _ hI (ent_has α hle)
    obtain ⟨j, hj⟩ := List.getElem?_of_mem hv
    exact ha v (entL_get a (pad_get _ _ _ hj))
theorem snd_Cc (l : Launch) (α : Nat → Nat → Nat) (cT : Nat → ClassId) (D : va_G) (adV : Nat → Nat) (hall : CKALL) (hTX : TX l α cT D adV) : CS l α cT D adV Cc := fun m r a σ res σ' h h1 h2 ha sz => by
  obtain ⟨n, h⟩ := Cc_iff.mp h
  exact snd_run l α cT D adV hall hTX n n m r a σ res σ' h h1 h2 ha sz
