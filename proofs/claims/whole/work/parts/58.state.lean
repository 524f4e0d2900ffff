/-! THE WHOLE STATE, and the reference's slots and tape -/
abbrev TP : Type := (Nat → Int32) × Nat × Int32 × Int32
abbrev AZ : Type := RF × (Nat → RF) × (Nat → Bool) × KT × TP
abbrev zR (S : AZ) : RF := S.1
abbrev zI (S : AZ) : Nat → RF := S.2.1
abbrev zk (S : AZ) : Nat → Bool := S.2.2.1
abbrev zK (S : AZ) : KT := S.2.2.2.1
abbrev zT (S : AZ) : TP := S.2.2.2.2
/-- images -/
def IM (σ : St) (I : Nat → RF) (kp : Nat → Bool) : Prop := ∀ k, k < 3 → gI σ 1948 0 k = tv (kp k) ∧ (kp k = true → WF (I k) ∧ HM σ (1 + k) (I k))
/-- the tape: bytes, how many, the latest fault and its place -/
def TM (σ : St) (t : TP) : Prop := gI σ 96 0 6 = nI t.2.1 ∧ t.2.1 ≤ 700 ∧ (∀ i, i < t.2.1 → gI σ 358731 0 i = t.1 i ∧ -128 ≤ (t.1 i).toInt ∧ (t.1 i).toInt ≤ 127) ∧ gI σ 96 0 14 = t.2.2.1 ∧ gI σ 96 0 15 = t.2.2.2
def JM (σ : St) (S : AZ) : Prop := H0 σ (zR S) ∧ IM σ (zI S) (zk S) ∧ SM σ (zK S) ∧ TM σ (zT S)
theorem IM.f {σ σ' : St} {I : Nat → RF} {kp : Nat → Bool} (h : IM σ I kp) (hf : Fr scM σ σ') : IM σ' I kp := fun k hk => ⟨(hf.i rfl).trans (h k hk).1, fun q => ⟨((h k hk).2 q).1, ((h k hk).2 q).2.fr hf (fun _ => ⟨rfl, rfl, rfl, rfl, rfl, rfl, rfl, rfl, rfl⟩)⟩⟩
theorem TM.f {σ σ' : St} {t : TP} (h : TM σ t) (hf : Fr scM σ σ') : TM σ' t := ⟨(hf.i rfl).trans h.1, h.2.1, fun i hi => ⟨(hf.i rfl).trans (h.2.2.1 i hi).1, (h.2.2.1 i hi).2⟩, (hf.i rfl).trans h.2.2.2.1, (hf.i rfl).trans h.2.2.2.2⟩
theorem JM.f {σ σ' : St} {S : AZ} (h : JM σ S) (hf : Fr scM σ σ') : JM σ' S := ⟨h.1.f hf, h.2.1.f hf, h.2.2.1.f hf, h.2.2.2.f hf⟩
/-- the reference's cells -/
def rfS (t _i _j : Nat) : Bool := Nat.beq t 96 || Nat.beq t 2345 || Nat.beq t 2353 || Nat.beq t 123194 || Nat.beq t 31042 || Nat.beq t 358731 || Nat.beq t 2897 || Nat.beq t 23385 || Nat.beq t 31073 || Nat.beq t 36201 || Nat.beq t 18289 || Nat.beq t 31097 || Nat.beq t 51585 || Nat.beq t 31113 || Nat.beq t 307601 || Nat.beq t 1948 || Nat.beq t 3489 || Nat.beq t 3497 || Nat.beq t 3505 || Nat.beq t 40377 || Nat.beq t 3521 || Nat.beq t 3529 || Nat.beq t 23888337 || Nat.beq t 369113 || Nat.beq t 40417
theorem sc_rf (t i j : Nat) (h : scM t i j = true) : rfS t i j = true := by
  unfold scM at h
  simp only [Bool.or_eq_true, Bool.and_eq_true] at h
  rcases h with (((((((((h | h) | h) | h) | h) | h) | h) | h) | h) | h) | h <;> first | (rw [Nat.eq_of_beq_eq_true h]; rfl) | (rw [Nat.eq_of_beq_eq_true h.1]; rfl)
theorem Fr.rfs {σ σ' : St} (h : Fr scM σ σ') : Fr rfS σ σ' := h.up (fun t i j hq => by
  cases hz : scM t i j
  · rfl
  · rw [sc_rf t i j hz] at hq
    cases hq)
/-- a method of the reference answers v, and then the state is S -/
def RMS (m : Nat) (a : List AV) (σ : St) (v : AV) (S : AZ) : Prop := ∃ σ', Cc m 0 (vR 96 0 :: a) σ = some (some v, σ') ∧ Fr rfS σ σ' ∧ JM σ' S
theorem RM.st {m : Nat} {a : List AV} {σ : St} {v : AV} (h : RM m a σ v) {S : AZ} (hS : JM σ S) : RMS m a σ v S := by
  obtain ⟨σ', h1, h2⟩ := h
  exact ⟨σ', h1, h2.rfs, hS.f h2⟩
/-- a slot has a row -/
def KU (K : KT) (s w n : Nat) (f : Nat → Int64) : KT := (fun t => if t = s then w else kw K t, fun t => if t = s then n else kn K t, fun t => if t = s then f else kc K t)
theorem KU_w (K : KT) (s w n : Nat) (f : Nat → Int64) (t : Nat) : kw (KU K s w n f) t = if t = s then w else kw K t := rfl
theorem KU_n (K : KT) (s w n : Nat) (f : Nat → Int64) (t : Nat) : kn (KU K s w n f) t = if t = s then n else kn K t := rfl
theorem KU_c (K : KT) (s w n : Nat) (f : Nat → Int64) (t : Nat) : kc (KU K s w n f) t = if t = s then f else kc K t := rfl
theorem SM_KU {σ : St} {K : KT} {s w n : Nat} {f : Nat → Int64} (h : ∀ t, t < 4 → t ≠ s → kw K t ≤ 4 ∧ kn K t ≤ 60 ∧ (kw K t = 4 → gI σ 2345 0 t = -1) ∧ (kw K t ≠ 4 → gI σ 2345 0 t = nI (kw K t) ∧ gI σ 2353 0 t = nI (kn K t) ∧ ∀ k, k < kn K t → gL σ 123194 0 (60 * t + k) = kc K t k)) (hw : w < 4) (hn : n ≤ 60) (h1 : gI σ 2345 0 s = nI w) (h2 : gI σ 2353 0 s = nI n) (h3 : ∀ k, k < n → gL σ 123194 0 (60 * s + k) = f k) : SM σ (KU K s w n f) := fun t ht => by
  rw [KU_w, KU_n, KU_c]
  by_cases hq : t = s
  · subst hq
    rw [if_pos rfl, if_pos rfl, if_pos rfl]
    exact ⟨by omega, hn, fun z => by omega, fun _ => ⟨h1, h2, h3⟩⟩
  · rw [if_neg hq, if_neg hq, if_neg hq]
    exact h t ht hq
def pL (σ : St) (t i : Nat) (g : Nat → Int64) : St := (σ.1, fun t' i' j' => if t' = t ∧ i' = i then g j' else σ.2 t' i' j')
theorem gL_pL (σ : St) (t i : Nat) (g : Nat → Int64) (t' i' j' : Nat) : gL (pL σ t i g) t' i' j' = if t' = t ∧ i' = i then g j' else gL σ t' i' j' := rfl
theorem gI_pL (σ : St) (t i : Nat) (g : Nat → Int64) (t' i' j' : Nat) : gI (pL σ t i g) t' i' j' = gI σ t' i' j' := rfl
theorem gL_pLs (σ : St) (t i : Nat) (g : Nat → Int64) (j : Nat) : gL (pL σ t i g) t i j = g j := by rw [gL_pL, if_pos ⟨rfl, rfl⟩]
theorem gL_pLn {σ : St} {t i : Nat} {g : Nat → Int64} {t' i' j' : Nat} (h : t' ≠ t) : gL (pL σ t i g) t' i' j' = gL σ t' i' j' := by rw [gL_pL, if_neg (fun z => h z.1)]
theorem sL_pL (σ : St) (t i j : Nat) (v : Int64) (g : Nat → Int64) : sL (pL σ t i g) t i j v = pL σ t i (vp_updL g j v) := by
  refine st_ext (fun _ _ _ => rfl) (fun t' i' j' => ?_)
  rw [gL_sL, gL_pL, gL_pL]
  unfold vp_updL
  by_cases h : t' = t ∧ i' = i
  · rw [if_pos h, if_pos h]
    by_cases h2 : j' = j
    · rw [if_pos ⟨h.1, h.2, h2⟩, if_pos h2]
    · rw [if_neg (fun z => h2 z.2.2), if_neg h2]
  · rw [if_neg h, if_neg h, if_neg (fun z => h ⟨z.1, z.2.1⟩)]
theorem pL_id (σ : St) (t i : Nat) : pL σ t i (gL σ t i) = σ := by
  refine st_ext (fun _ _ _ => rfl) (fun t' i' j' => ?_)
  rw [gL_pL]
  by_cases h : t' = t ∧ i' = i
  · rw [if_pos h, h.1, h.2]
  · rw [if_neg h]
theorem Fr.pL {S : Nat → Nat → Nat → Bool} {σ σ' : St} {t i : Nat} {g : Nat → Int64} (h : Fr S σ σ') (hs : ∀ j, S t i j = true) : Fr S σ (pL σ' t i g) := h.tr (fun t' i' j' hq => ⟨rfl, by
  rw [gL_pL, if_neg]
  rintro ⟨rfl, rfl⟩
  exact Bool.noConfusion ((hs j').symm.trans hq)⟩)
/-- row -/
def rowB (a1 a2 a3 : Int32) : Bool := inB a1 4 && inB a2 4 && decide (a3 ≤ 60)
def Z_row (S : AZ) (a1 a2 a3 : Int32) : Int32 × AZ := cond (rowB a1 a2 a3) (cond (decide (a3 < 0)) (-3, S) (0, (zR S, zI S, zk S, KU (zK S) (cl a1) (cl a2) (cl a3) (fun _ => 0), zT S))) (-2, S)
theorem IM.f2 {σ σ' : St} {I : Nat → RF} {kp : Nat → Bool} (h : IM σ I kp) {X : Nat → Nat → Nat → Bool} (hf : Fr X σ σ') (hs : ∀ j, X 1948 0 j = false ∧ X 23385 0 j = false ∧ X 2897 0 j = false ∧ X 31073 0 j = false ∧ X 36201 0 j = false ∧ X 18289 0 j = false ∧ X 31097 0 j = false ∧ X 51585 0 j = false ∧ X 31113 0 j = false ∧ X 307601 0 j = false) : IM σ' I kp := fun k hk => ⟨(hf.i (hs _).1).trans (h k hk).1, fun q => ⟨((h k hk).2 q).1, ((h k hk).2 q).2.fr hf (fun j => (hs j).2)⟩⟩
/-- what slots' calls write -/
def slS (t _i j : Nat) : Bool := Nat.beq t 2345 || Nat.beq t 2353 || Nat.beq t 123194 || Nat.beq t 31042 || (Nat.beq t 96 && Nat.beq j 0)
theorem sl_rf (t i j : Nat) (h : slS t i j = true) : rfS t i j = true := by
  unfold slS at h
  simp only [Bool.or_eq_true, Bool.and_eq_true] at h
  rcases h with (((h | h) | h) | h) | h <;> first | (rw [Nat.eq_of_beq_eq_true h]; rfl) | (rw [Nat.eq_of_beq_eq_true h.1]; rfl)
theorem Fr.sls {σ σ' : St} (h : Fr slS σ σ') : Fr rfS σ σ' := h.up (fun t i j hq => by
  cases hz : slS t i j
  · rfl
  · rw [sl_rf t i j hz] at hq
    cases hq)
/-- what a slots' call leaves -/
theorem JM.sl {σ σ' : St} {S : AZ} {K : KT} (h : JM σ S) (hf : Fr slS σ σ') (hK : SM σ' K) : JM σ' (zR S, zI S, zk S, K, zT S) :=
  ⟨⟨h.1.1, h.1.2.fr hf (fun _ => ⟨rfl, rfl, rfl, rfl, rfl, rfl, rfl, rfl, rfl⟩)⟩, h.2.1.f2 hf (fun _ => ⟨rfl, rfl, rfl, rfl, rfl, rfl, rfl, rfl, rfl, rfl⟩), hK, ⟨(hf.i rfl).trans h.2.2.2.1, h.2.2.2.2.1, fun i hi => ⟨(hf.i rfl).trans (h.2.2.2.2.2.1 i hi).1, (h.2.2.2.2.2.1 i hi).2⟩, (hf.i rfl).trans h.2.2.2.2.2.2.1, (hf.i rfl).trans h.2.2.2.2.2.2.2⟩⟩
theorem n_row {σ : St} {S : AZ} (h : JM σ S) (a1 a2 a3 : Int32) : RMS 206 [vI a1, vI a2, vI a3] σ (vI (Z_row S a1 a2 a3).1) (Z_row S a1 a2 a3).2 := by
  have hc : Cc 206 0 [vR 96 0, vI a1, vI a2, vI a3] σ = cond (rowB a1 a2 a3) (if a3 < 0 then some (some (vI (-3)), sI σ 96 0 0 0) else ix a1 4 (fun k5 => ix a1 4 (fun k6 => Vv 206 0 57 [some (vR 96 0), some (vI a1), some (vI a2), some (vI a3), some (vI 0)] [] (sI (sI (sI σ 96 0 0 0) 2345 0 k5 a2) 2353 0 k6 a3)))) (some (some (vI (-2)), sI σ 96 0 0 0)) := by
    rw [c_M_row, r_isSlot, cI_s, tv_ite, s_in, inB_k a2 3 3 rfl, cI_s, tv_ite, ite_n (c := a3 ≤ 60), cond_and, cond_and]
    rfl
  unfold Z_row
  cases hb : rowB a1 a2 a3
  · rw [hb] at hc
    exact ⟨_, hc, (thr_F σ).rfs, h.f (thr_F σ)⟩
  · rw [hb, cond_true] at hc
    rw [cond_true]
    by_cases h0 : a3 < 0
    · rw [if_pos h0] at hc
      rw [decide_eq_true h0]
      exact ⟨_, hc, (thr_F σ).rfs, h.f (thr_F σ)⟩
    · rw [if_neg h0] at hc
      rw [decide_eq_false h0]
      unfold rowB at hb
      simp only [Bool.and_eq_true, decide_eq_true_eq] at hb
      obtain ⟨s, hs, rfl⟩ := inB_e (by omega) hb.1.1
      obtain ⟨w, hw, rfl⟩ := inB_e (by omega) hb.1.2
      obtain ⟨n, hn, rfl⟩ := nI_of2 (M := 60) (n := 60) rfl h0 hb.2
      rw [cl_n (by omega), cl_n (by omega), cl_n (by omega)]
      rw [ix_nI hs (by omega), ix_nI hs (by omega)] at hc
      have hl := lpU (V := fun j => Vv 206 0 57 [some (vR 96 0), some (vI (nI s)), some (vI (nI w)), some (vI (nI n)), some (vI (nI j))] [] (pL (sI (sI (sI σ 96 0 0 0) 2345 0 s (nI w)) 2353 0 s (nI n)) 123194 0 (fun q => if 60 * s ≤ q ∧ q < 60 * s + j then 0 else gL σ 123194 0 q))) (n := n) (fun j hj => by
        show Vv _ _ _ _ _ _ = Vv _ _ _ _ _ _
        rw [v_M_row_57, if_pos (nI_lt hj (by omega)), sixty, nI_add, ix_nI (by omega) (by omega), sL_pL, nI_1]
        congr 2
        funext q
        unfold vp_updL
        try dsimp only
        by_cases hq : q = 60 * s + j
        · rw [if_pos hq, if_pos (by omega)]
        · rw [if_neg hq]
          by_cases hq2 : 60 * s ≤ q ∧ q < 60 * s + j
          · rw [if_pos hq2, if_pos (by omega)]
          · rw [if_neg hq2, if_neg (by omega)])
      have e0 : pL (sI (sI (sI σ 96 0 0 0) 2345 0 s (nI w)) 2353 0 s (nI n)) 123194 0 (fun q => if 60 * s ≤ q ∧ q < 60 * s + 0 then 0 else gL σ 123194 0 q) = sI (sI (sI σ 96 0 0 0) 2345 0 s (nI w)) 2353 0 s (nI n) := by
        have : (fun q => if 60 * s ≤ q ∧ q < 60 * s + 0 then 0 else gL σ 123194 0 q) = gL (sI (sI (sI σ 96 0 0 0) 2345 0 s (nI w)) 2353 0 s (nI n)) 123194 0 := by
          funext q
          rw [if_neg (by omega)]
          rfl
        rw [this, pL_id]
      have hl : Vv 206 0 57 [some (vR 96 0), some (vI (nI s)), some (vI (nI w)), some (vI (nI n)), some (vI (nI 0))] [] (pL (sI (sI (sI σ 96 0 0 0) 2345 0 s (nI w)) 2353 0 s (nI n)) 123194 0 (fun q => if 60 * s ≤ q ∧ q < 60 * s + 0 then 0 else gL σ 123194 0 q)) = Vv 206 0 57 [some (vR 96 0), some (vI (nI s)), some (vI (nI w)), some (vI (nI n)), some (vI (nI n))] [] (pL (sI (sI (sI σ 96 0 0 0) 2345 0 s (nI w)) 2353 0 s (nI n)) 123194 0 (fun q => if 60 * s ≤ q ∧ q < 60 * s + n then 0 else gL σ 123194 0 q)) := hl
      rw [e0] at hl
      have hF : Fr slS σ (pL (sI (sI (sI σ 96 0 0 0) 2345 0 s (nI w)) 2353 0 s (nI n)) 123194 0 (fun q => if 60 * s ≤ q ∧ q < 60 * s + n then 0 else gL σ 123194 0 q)) := (((Fr.rf.sI rfl).sI rfl).sI rfl).pL (fun _ => rfl)
      refine ⟨_, (hc.trans hl).trans ?_, hF.sls, h.sl hF (SM_KU (fun t ht hts => ?_) hw (by omega) ?_ ?_ (fun k hk => ?_))⟩
      · rw [v_M_row_57, if_neg (nI_nlt (Nat.le_refl _) (by omega))]
        rfl
      · obtain ⟨g1, g2, g3, g4⟩ := h.2.2.1 t ht
        refine ⟨g1, g2, fun z => ?_, fun z => ?_⟩
        · rw [gI_pL, gI_sIn (by decide), gI_sIj hts, gI_sIn (by decide)]
          exact g3 z
        · obtain ⟨d1, d2, d3⟩ := g4 z
          refine ⟨?_, ?_, fun k hk => ?_⟩
          · rw [gI_pL, gI_sIn (by decide), gI_sIj hts, gI_sIn (by decide)]
            exact d1
          · rw [gI_pL, gI_sIj hts, gI_sIn (by decide), gI_sIn (by decide)]
            exact d2
          · rw [gL_pLs, if_neg (by omega)]
            exact d3 k hk
      · rw [gI_pL, gI_sIn (by decide), gI_sIs]
      · rw [gI_pL, gI_sIs]
      · rw [gL_pLs, if_pos (by omega)]
/-- write -/
def cutW (w : Nat) (v : Int64) : Int64 := match w with
  | 0 => Int32.toInt64 ((Int32.toInt8 (Int64.toInt32 v)).toInt32)
  | 1 => Int32.toInt64 ((Int32.toInt16 (Int64.toInt32 v)).toInt32)
  | 2 => Int32.toInt64 (Int64.toInt32 v)
  | _ => v
theorem s_cut (σ : St) {w : Nat} (hw : w < 4) (v : Int64) : Cc 207 0 [vL v, vI (nI w)] σ = some (some (vL (cutW w v)), σ) := by
  rw [c_M_cut]
  have : w = 0 ∨ w = 1 ∨ w = 2 ∨ w = 3 := by omega
  rcases this with rfl | rfl | rfl | rfl
  · rw [if_pos q_0]; rfl
  · rw [if_neg (by decide), if_pos q_1]; rfl
  · rw [if_neg (by decide), if_neg (by decide), if_pos q_2]; rfl
  · rw [if_neg (by decide), if_neg (by decide), if_neg (by decide)]; rfl
def Z_write (S : AZ) (a1 a2 : Int32) (v : Int64) : Int32 × AZ := cond (inB a1 4) (cond (decide (kw (zK S) (cl a1) = 4)) (-6, S) (cond (inB a2 (kn (zK S) (cl a1))) (0, (zR S, zI S, zk S, KU (zK S) (cl a1) (kw (zK S) (cl a1)) (kn (zK S) (cl a1)) (fun k => if k = cl a2 then cutW (kw (zK S) (cl a1)) v else kc (zK S) (cl a1) k), zT S)) (-7, S))) (-2, S)
theorem inB_m1 (a : Int32) {n : Nat} (hn : n < 2 ^ 30) : decide ((0 : Int64) ≤ a.toInt64 ∧ a.toInt64 ≤ (nI n - 1).toInt64) = inB a n := by
  unfold inB
  apply decide_eq_decide.mpr
  have e : (0 : Int64).toInt = 0 := rfl
  have e2 : (nI n - 1).toInt = (n : Int) - 1 := pk_sub_toInt (b := 1) (by omega) (by omega)
  rw [Int64.le_iff_toInt_le, Int64.le_iff_toInt_le, Int32.toInt_toInt64, Int32.toInt_toInt64, e, e2]
  omega
theorem n_write {σ : St} {S : AZ} (h : JM σ S) (a1 a2 : Int32) (v : Int64) : RMS 208 [vI a1, vI a2, vL v] σ (vI (Z_write S a1 a2 v).1) (Z_write S a1 a2 v).2 := by
  have h1 := h.f (thr_F σ)
  have f1 := (thr_F σ).rfs
  unfold Z_write RMS
  rw [c_M_write, r_isSlot, cI_s, tv_ite]
  cases hb : inB a1 4
  · exact ⟨_, rfl, f1, h1⟩
  · obtain ⟨s, hs, rfl⟩ := inB_e (by omega) hb
    obtain ⟨g1, g2, g3, g4⟩ := h1.2.2.1 s hs
    rw [cond_true, cond_true, cl_n (by omega), ix_nI hs (by omega)]
    by_cases hw : kw (zK S) s = 4
    · rw [g3 hw, if_pos rfl, decide_eq_true hw]
      exact ⟨_, rfl, f1, h1⟩
    · obtain ⟨d1, d2, d3⟩ := g4 hw
      rw [d1, if_neg (nn1 (by omega)), decide_eq_false hw, ix_nI hs (by omega), d2, s_in, cI_s, inB_m1 a2 (by omega), tv_ite, cond_false]
      cases hb2 : inB a2 (kn (zK S) s)
      · exact ⟨_, rfl, f1, h1⟩
      · obtain ⟨k, hk, rfl⟩ := inB_e (by omega) hb2
        rw [cond_true, cond_true, ix_nI hs (by omega), d1, s_cut _ (by omega), cL_s, sixty, nI_add, ix_nI (by omega) (by omega), cl_n (by omega)]
        have hF : Fr slS σ (sL (sI σ 96 0 0 0) 123194 0 (60 * s + k) (cutW (kw (zK S) s) v)) := (Fr.rf.sI rfl).sL rfl
        refine ⟨_, rfl, hF.sls, h.sl hF (SM_KU (fun t ht hts => ?_) (by omega) g2 d1 d2 (fun j hj => ?_))⟩
        · obtain ⟨x1, x2, x3, x4⟩ := h1.2.2.1 t ht
          refine ⟨x1, x2, x3, fun z => ?_⟩
          obtain ⟨y1, y2, y3⟩ := x4 z
          refine ⟨y1, y2, fun j hj => ?_⟩
          rw [gL_sL, if_neg (by omega)]
          exact y3 j hj
        · rw [gL_sL]
          by_cases hj2 : j = k
          · rw [if_pos ⟨rfl, rfl, by omega⟩, if_pos hj2]
          · rw [if_neg (by omega), if_neg hj2]
            exact d3 j hj
