/-! WHAT THE MACHINE COMES TO: exec by steps, run by depth, their limits V and C, and that V is one step ahead of itself -/
def exec (C : AC) (m r : Nat) : Nat → AK
  | 0 => fun _ _ _ _ => none
  | n + 1 => stepF (exec C m r n) C m r
def entL (args : List AV) : AL := match args with
  | [] => []
  | .inr (.inl x) :: l => some (.inr (.inl x)) :: none :: entL l
  | v :: l => some v :: entL l
def pad : Nat → AL → AL
  | 0, L => L
  | n + 1, [] => none :: pad n []
  | n + 1, v :: L => v :: pad n L
def entry (m : Nat) (args : List AV) : AL := pad (maxL m) (entL args)
def run (N : Nat) : Nat → AC
  | 0 => fun _ _ _ _ => none
  | d + 1 => fun m r args σ => cond (Nat.ble (entL args).length (maxL m)) (exec (run N d) m r N 0 (entry m args) [] σ) none
def le (a b : Option AR) : Prop := ∀ x, a = some x → b = some x
def kle (K K' : AK) : Prop := ∀ pc L S σ, le (K pc L S σ) (K' pc L S σ)
def cle (C C' : AC) : Prop := ∀ m r a σ, le (C m r a σ) (C' m r a σ)
/-- grows with K and C, and needs only so much of them -/
def Good (F : AK → AC → Option AR) : Prop :=
  (∀ K K' C C', kle K K' → cle C C' → le (F K C) (F K' C')) ∧
  ∀ (Kn : Nat → AK) (Cn : Nat → AC) (K : AK) (C : AC), (∀ a b, a ≤ b → kle (Kn a) (Kn b)) → (∀ a b, a ≤ b → cle (Cn a) (Cn b)) →
    (∀ pc L S σ x, K pc L S σ = some x → ∃ n, Kn n pc L S σ = some x) → (∀ m r a σ x, C m r a σ = some x → ∃ n, Cn n m r a σ = some x) →
    ∀ x, F K C = some x → ∃ n, F (Kn n) (Cn n) = some x
theorem good_none : Good (fun _ _ => none) := ⟨fun _ _ _ _ _ _ _ h => (by cases h), fun _ _ _ _ _ _ _ _ _ h => (by cases h)⟩
theorem good_some (v : AR) : Good (fun _ _ => some v) := ⟨fun _ _ _ _ _ _ _ h => h, fun _ _ _ _ _ _ _ _ _ h => ⟨0, h⟩⟩
theorem good_K (pc : Nat) (L : AL) (S : List AV) (σ : St) : Good (fun K _ => K pc L S σ) := ⟨fun _ _ _ _ hk _ => hk pc L S σ, fun _ _ _ _ _ _ h _ x hx => h pc L S σ x hx⟩
theorem good_ite {c : Prop} (d : Decidable c) {F G : AK → AC → Option AR} (hF : Good F) (hG : Good G) : Good (fun K C => if c then F K C else G K C) := by
  by_cases h : c
  · simp only [if_pos h]; exact hF
  · simp only [if_neg h]; exact hG
theorem good_cond {b : Bool} {F G : AK → AC → Option AR} (hF : Good F) (hG : Good G) : Good (fun K C => cond b (F K C) (G K C)) := by
  cases b
  · exact hG
  · exact hF
theorem good_ix {j : Int32} {n : Nat} {F : Nat → AK → AC → Option AR} (hF : ∀ k, Good (F k)) : Good (fun K C => ix j n (fun k => F k K C)) := by
  unfold ix
  exact good_ite _ good_none (hF _)
theorem cI_iff {o : Option AR} {k : Int32 → St → Option AR} {z : AR} : cI o k = some z ↔ ∃ x s, o = some (some (.inl x), s) ∧ k x s = some z := by
  unfold cI
  constructor
  · intro h
    split at h
    · exact ⟨_, _, rfl, h⟩
    · cases h
  · rintro ⟨x, s, rfl, h⟩
    exact h
theorem good_cI {m r : Nat} {a : List AV} {σ : St} {F : Int32 → St → AK → AC → Option AR} (hF : ∀ x s, Good (F x s)) : Good (fun K C => cI (C m r a σ) (fun x s => F x s K C)) := by
  constructor
  · intro K K' C C' hk hc z h
    obtain ⟨x, s, e, h⟩ := cI_iff.mp h
    exact cI_iff.mpr ⟨x, s, hc m r a σ _ e, (hF x s).1 K K' C C' hk hc z h⟩
  · intro Kn Cn K C mk mc hk hc z h
    obtain ⟨x, s, e, h⟩ := cI_iff.mp h
    obtain ⟨n1, h1⟩ := hc m r a σ _ e
    obtain ⟨n2, h2⟩ := (hF x s).2 Kn Cn K C mk mc hk hc z h
    exact ⟨max n1 n2, cI_iff.mpr ⟨x, s, mc n1 (max n1 n2) (by omega) m r a σ _ h1, (hF x s).1 _ _ _ _ (mk n2 (max n1 n2) (by omega)) (mc n2 (max n1 n2) (by omega)) z h2⟩⟩
theorem cL_iff {o : Option AR} {k : Int64 → St → Option AR} {z : AR} : cL o k = some z ↔ ∃ x s, o = some (some (.inr (.inl x)), s) ∧ k x s = some z := by
  unfold cL
  constructor
  · intro h
    split at h
    · exact ⟨_, _, rfl, h⟩
    · cases h
  · rintro ⟨x, s, rfl, h⟩
    exact h
theorem good_cL {m r : Nat} {a : List AV} {σ : St} {F : Int64 → St → AK → AC → Option AR} (hF : ∀ x s, Good (F x s)) : Good (fun K C => cL (C m r a σ) (fun x s => F x s K C)) := by
  constructor
  · intro K K' C C' hk hc z h
    obtain ⟨x, s, e, h⟩ := cL_iff.mp h
    exact cL_iff.mpr ⟨x, s, hc m r a σ _ e, (hF x s).1 K K' C C' hk hc z h⟩
  · intro Kn Cn K C mk mc hk hc z h
    obtain ⟨x, s, e, h⟩ := cL_iff.mp h
    obtain ⟨n1, h1⟩ := hc m r a σ _ e
    obtain ⟨n2, h2⟩ := (hF x s).2 Kn Cn K C mk mc hk hc z h
    exact ⟨max n1 n2, cL_iff.mpr ⟨x, s, mc n1 (max n1 n2) (by omega) m r a σ _ h1, (hF x s).1 _ _ _ _ (mk n2 (max n1 n2) (by omega)) (mc n2 (max n1 n2) (by omega)) z h2⟩⟩
theorem cV_iff {o : Option AR} {k : St → Option AR} {z : AR} : cV o k = some z ↔ ∃ s, o = some (none, s) ∧ k s = some z := by
  unfold cV
  constructor
  · intro h
    split at h
    · exact ⟨_, rfl, h⟩
    · cases h
  · rintro ⟨s, rfl, h⟩
    exact h
theorem good_cV {m r : Nat} {a : List AV} {σ : St} {F : St → AK → AC → Option AR} (hF : ∀ s, Good (F s)) : Good (fun K C => cV (C m r a σ) (fun s => F s K C)) := by
  constructor
  · intro K K' C C' hk hc z h
    obtain ⟨s, e, h⟩ := cV_iff.mp h
    exact cV_iff.mpr ⟨s, hc m r a σ _ e, (hF s).1 K K' C C' hk hc z h⟩
  · intro Kn Cn K C mk mc hk hc z h
    obtain ⟨s, e, h⟩ := cV_iff.mp h
    obtain ⟨n1, h1⟩ := hc m r a σ _ e
    obtain ⟨n2, h2⟩ := (hF s).2 Kn Cn K C mk mc hk hc z h
    exact ⟨max n1 n2, cV_iff.mpr ⟨s, mc n1 (max n1 n2) (by omega) m r a σ _ h1, (hF s).1 _ _ _ _ (mk n2 (max n1 n2) (by omega)) (mc n2 (max n1 n2) (by omega)) z h2⟩⟩
theorem good_jmp {L : AL} {S : List AV} {σ : St} {x : Int32} {d : Nat} : ∀ (ts : List Nat) (lo : Int), Good (fun K _ => jmp K L S σ x d lo ts)
  | [], _ => good_K _ _ _ _
  | t :: ts, lo => good_ite _ (good_K _ _ _ _) (good_jmp ts (lo + 1))
theorem good_step (m r pc : Nat) (L : AL) (S : List AV) (σ : St) : Good (fun K C => stepF K C m r pc L S σ) := by
  unfold stepF
  split
  · exact good_none
  · next ins len xs cv e =>
    clear e
    unfold stepI
    cases ins <;> dsimp only <;> (try exact good_none) <;> (try exact good_K _ _ _ _)
    all_goals (try simp only [ldI, ldL, ldA, stI, stL, stA, biI, biL, dvI, dvL, br1, br2, gtF, ptF, inw, inv, prm, cpA, retZ, mmI])
    all_goals repeat' first
      | exact good_none
      | exact good_some _
      | exact good_K _ _ _ _
      | exact good_jmp _ _
      | refine good_cond ?_ ?_
      | refine good_ite _ ?_ ?_
      | refine good_ix (fun _ => ?_)
      | refine good_cI (fun _ _ => ?_)
      | refine good_cL (fun _ _ => ?_)
      | refine good_cV (fun _ => ?_)
      | split
theorem exec_mono {C C' : AC} (hc : cle C C') (m r : Nat) : ∀ n n', n ≤ n' → kle (exec C m r n) (exec C' m r n')
  | 0, _, _ => fun _ _ _ _ _ h => by cases h
  | n + 1, 0, h => absurd h (by omega)
  | n + 1, n' + 1, h => fun pc L S σ => (good_step m r pc L S σ).1 _ _ _ _ (exec_mono hc m r n n' (by omega)) hc
theorem run_mono {N N' : Nat} (hN : N ≤ N') : ∀ d d', d ≤ d' → cle (run N d) (run N' d')
  | 0, _, _ => fun _ _ _ _ _ h => by cases h
  | d + 1, 0, h => absurd h (by omega)
  | d + 1, d' + 1, h => fun m r a σ => by
    show le (cond _ _ none) (cond _ _ none)
    cases Nat.ble (entL a).length (maxL m)
    · exact fun _ h => by cases h
    · exact exec_mono (run_mono hN d d' (by omega)) m r N N' hN 0 (entry m a) [] σ
noncomputable def lim (f : Nat → Option AR) : Option AR := by classical exact if h : ∃ x n, f n = some x then some h.choose else none
theorem lim_iff {f : Nat → Option AR} (mono : ∀ a b, a ≤ b → le (f a) (f b)) {x : AR} : lim f = some x ↔ ∃ n, f n = some x := by
  unfold lim
  constructor
  · intro h
    split at h
    · next hx =>
      obtain ⟨n, hn⟩ := hx.choose_spec
      cases h
      exact ⟨n, hn⟩
    · cases h
  · rintro ⟨n, hn⟩
    have hx : ∃ x n, f n = some x := ⟨x, n, hn⟩
    rw [dif_pos hx]
    obtain ⟨k, hk⟩ := hx.choose_spec
    have h1 := mono n (max n k) (by omega) _ hn
    have h2 := mono k (max n k) (by omega) _ hk
    rw [h1] at h2
    exact h2.symm
noncomputable def Cc : AC := fun m r a σ => lim (fun n => run n n m r a σ)
noncomputable def Vv (m r : Nat) : AK := fun pc L S σ => lim (fun n => exec (run n n) m r n pc L S σ)
theorem Cc_iff {m r : Nat} {a : List AV} {σ : St} {x : AR} : Cc m r a σ = some x ↔ ∃ n, run n n m r a σ = some x := lim_iff (fun a' b h => run_mono h a' b h m r a σ)
theorem Vv_iff {m r pc : Nat} {L : AL} {S : List AV} {σ : St} {x : AR} : Vv m r pc L S σ = some x ↔ ∃ n, exec (run n n) m r n pc L S σ = some x := lim_iff (fun a' b h => exec_mono (run_mono h a' b h) m r a' b h pc L S σ)
theorem opt_ext {a b : Option AR} (h : ∀ x, a = some x ↔ b = some x) : a = b := by
  cases a with
  | none =>
    cases b with
    | none => rfl
    | some y => exact absurd ((h y).mpr rfl) (by simp)
  | some x => exact ((h x).mp rfl).symm
theorem Vv_eq (m r pc : Nat) (L : AL) (S : List AV) (σ : St) : Vv m r pc L S σ = stepF (Vv m r) Cc m r pc L S σ := by
  refine opt_ext (fun x => ?_)
  constructor
  · intro h
    obtain ⟨n, h⟩ := Vv_iff.mp h
    cases n with
    | zero => cases h
    | succ n => exact (good_step m r pc L S σ).1 _ _ _ _ (fun pc' L' S' σ' y hy => Vv_iff.mpr ⟨n + 1, exec_mono (fun _ _ _ _ _ h => h) m r n (n + 1) (by omega) pc' L' S' σ' y hy⟩) (fun m' r' a' σ' y hy => Cc_iff.mpr ⟨_, hy⟩) x h
  · intro h
    obtain ⟨n, h⟩ := (good_step m r pc L S σ).2 (fun n => exec (run n n) m r n) (fun n => run n n) (Vv m r) Cc (fun a b h => exec_mono (run_mono h a b h) m r a b h) (fun a b h => run_mono h a b h) (fun pc' L' S' σ' y hy => Vv_iff.mp hy) (fun m' r' a' σ' y hy => Cc_iff.mp hy) x h
    exact Vv_iff.mpr ⟨n + 1, exec_mono (run_mono (by omega) n (n + 1) (by omega)) m r (n + 1) (n + 1) (by omega) pc L S σ x h⟩
theorem Cc_eq (m r : Nat) (a : List AV) (σ : St) : Cc m r a σ = cond (Nat.ble (entL a).length (maxL m)) (Vv m r 0 (entry m a) [] σ) none := by
  refine opt_ext (fun x => ?_)
  constructor
  · intro h
    obtain ⟨n, h⟩ := Cc_iff.mp h
    cases n with
    | zero => cases h
    | succ n =>
      have h : cond (Nat.ble (entL a).length (maxL m)) (exec (run (n + 1) n) m r (n + 1) 0 (entry m a) [] σ) none = some x := h
      cases hb : Nat.ble (entL a).length (maxL m)
      · rw [hb] at h; cases h
      · rw [hb] at h
        exact Vv_iff.mpr ⟨n + 1, exec_mono (run_mono (by omega) n (n + 1) (by omega)) m r (n + 1) (n + 1) (by omega) _ _ _ _ x h⟩
  · intro h
    cases hb : Nat.ble (entL a).length (maxL m)
    · rw [hb] at h; cases h
    · rw [hb] at h
      obtain ⟨n, h⟩ := Vv_iff.mp h
      refine Cc_iff.mpr ⟨n + 1, ?_⟩
      show cond (Nat.ble (entL a).length (maxL m)) (exec (run (n + 1) n) m r (n + 1) 0 (entry m a) [] σ) none = some x
      rw [hb]
      exact exec_mono (run_mono (by omega) n n (by omega)) m r n (n + 1) (by omega) _ _ _ _ x h
/-- some steps at once, up to the next place of cut -/
noncomputable def U (cut : Nat → Bool) (m r : Nat) : Nat → AK
  | 0 => Vv m r
  | k + 1 => stepF (fun pc L S σ => cond (cut pc) (Vv m r pc L S σ) (U cut m r k pc L S σ)) Cc m r
theorem U_eq (cut : Nat → Bool) (m r : Nat) : ∀ k, U cut m r k = Vv m r
  | 0 => rfl
  | k + 1 => by
    funext pc L S σ
    rw [Vv_eq]
    show stepF (fun pc L S σ => cond (cut pc) (Vv m r pc L S σ) (U cut m r k pc L S σ)) Cc m r pc L S σ = _
    congr 1
    funext pc' L' S' σ'
    rw [U_eq cut m r k]
    cases cut pc' <;> rfl
theorem U_at (cut : Nat → Bool) (k : Nat) {m r pc : Nat} {L : AL} {S : List AV} {σ : St} {x : Option AR} (h : U cut m r k pc L S σ = x) : Vv m r pc L S σ = x := by rw [← h, U_eq]
