/-! THE LAW: case by case -/
theorem nI_4 (k : Nat) : nI k + 4 = nI (k + 4) := nI_add k 4
theorem nI_5 (k : Nat) : nI k + 5 = nI (k + 5) := nI_add k 5
theorem lg_self (x : Int64) : lg_cmp x x = 0 := by rw [lg_eq0]
/-- a case comes to the loop's end: both hold the same, the script is as it was -/
def LZP (σ : St) (i : Nat) (X : Option AR) : Prop := ∃ σ' S', X = Vv 372 0 2148 [some (vR 497 0), some (vR 88 0), some (vR 96 0), some (vI (nI i))] [] σ' ∧ JB σ' S' ∧ ∀ a b, gI σ' 497 a b = gI σ 497 a b
theorem LZP_ite {σ : St} {i : Nat} {c : Prop} [Decidable c] {x y : Option AR} (h1 : LZP σ i x) (h2 : LZP σ i y) : LZP σ i (if c then x else y) := by
  split
  · exact h1
  · exact h2
theorem L_316 {σ : St} {S : AZ} {i L : Nat} (h : JB σ S) (hs : gI σ 497 1 0 = nI L) (hi : i + 6 ≤ L) (hL : L ≤ 3072) : LZP σ i (Vv 372 0 316 [some (vR 497 0), some (vR 88 0), some (vR 96 0), some (vI (nI i))] [] σ) := by
  obtain ⟨σ1, σ2, c1, c2, j2⟩ := (both h (fun τ hτ => n_feed hτ (gI σ 497 0 (i + 1)) (gI σ 497 0 (i + 2)) (gI σ 497 0 (i + 3)) (gI σ 497 0 (i + 4)) (gI σ 497 0 (i + 5))) (fun τ hτ => u_feed hτ (gI σ 497 0 (i + 1)) (gI σ 497 0 (i + 2)) (gI σ 497 0 (i + 3)) (gI σ 497 0 (i + 4)) (gI σ 497 0 (i + 5)))).2
  have k1 := ck_Cc _ _ _ _ _ _ c1
  have k2 := ck_Cc _ _ _ _ _ _ c2
  refine ⟨σ2, _, ?_, j2, fun a b => (k2 a b).trans (k1 a b)⟩
  rw [v_L_law_316, hs, nI_clamp (show L < 2 ^ 31 by omega), nI_1, nI_2, nI_3, nI_4, nI_5, ix_nI (show i + 1 < L by omega) (show L < 2 ^ 31 by omega), ix_nI (show i + 2 < L by omega) (show L < 2 ^ 31 by omega), ix_nI (show i + 3 < L by omega) (show L < 2 ^ 31 by omega), ix_nI (show i + 4 < L by omega) (show L < 2 ^ 31 by omega), ix_nI (show i + 5 < L by omega) (show L < 2 ^ 31 by omega), c1, cI_s, k1 1 0, hs, nI_clamp (show L < 2 ^ 31 by omega), ix_nI (show i + 1 < L by omega) (show L < 2 ^ 31 by omega), ix_nI (show i + 2 < L by omega) (show L < 2 ^ 31 by omega), ix_nI (show i + 3 < L by omega) (show L < 2 ^ 31 by omega), ix_nI (show i + 4 < L by omega) (show L < 2 ^ 31 by omega), ix_nI (show i + 5 < L by omega) (show L < 2 ^ 31 by omega), k1 0 (i + 1), k1 0 (i + 2), k1 0 (i + 3), k1 0 (i + 4), k1 0 (i + 5), c2, cI_s, if_pos rfl]
theorem L_379 {σ : St} {S : AZ} {i L : Nat} (h : JB σ S) (hs : gI σ 497 1 0 = nI L) (hi : i + 6 ≤ L) (hL : L ≤ 3072) : LZP σ i (Vv 372 0 379 [some (vR 497 0), some (vR 88 0), some (vR 96 0), some (vI (nI i))] [] σ) := by
  obtain ⟨σ1, σ2, c1, c2, j2⟩ := (both h (fun τ hτ => n_end hτ (gI σ 497 0 (i + 1))) (fun τ hτ => u_end hτ (gI σ 497 0 (i + 1)))).2
  have k1 := ck_Cc _ _ _ _ _ _ c1
  have k2 := ck_Cc _ _ _ _ _ _ c2
  refine ⟨σ2, _, ?_, j2, fun a b => (k2 a b).trans (k1 a b)⟩
  rw [v_L_law_379, hs, nI_clamp (show L < 2 ^ 31 by omega), nI_1, ix_nI (show i + 1 < L by omega) (show L < 2 ^ 31 by omega), c1, cI_s, k1 1 0, hs, nI_clamp (show L < 2 ^ 31 by omega), ix_nI (show i + 1 < L by omega) (show L < 2 ^ 31 by omega), k1 0 (i + 1), c2, cI_s, if_pos rfl]
theorem L_402 {σ : St} {S : AZ} {i L : Nat} (h : JB σ S) (hs : gI σ 497 1 0 = nI L) (hi : i + 6 ≤ L) (hL : L ≤ 3072) : LZP σ i (Vv 372 0 402 [some (vR 497 0), some (vR 88 0), some (vR 96 0), some (vI (nI i))] [] σ) := by
  obtain ⟨σ1, σ2, c1, c2, j2⟩ := (both h (fun τ hτ => n_roof hτ ) (fun τ hτ => u_roof hτ )).2
  have k1 := ck_Cc _ _ _ _ _ _ c1
  have k2 := ck_Cc _ _ _ _ _ _ c2
  refine ⟨σ2, _, ?_, j2, fun a b => (k2 a b).trans (k1 a b)⟩
  rw [v_L_law_402, c1, cI_s, c2, cI_s, if_pos rfl]
theorem L_415 {σ : St} {S : AZ} {i L : Nat} (h : JB σ S) (hs : gI σ 497 1 0 = nI L) (hi : i + 6 ≤ L) (hL : L ≤ 3072) : LZP σ i (Vv 372 0 415 [some (vR 497 0), some (vR 88 0), some (vR 96 0), some (vI (nI i))] [] σ) := by
  obtain ⟨σ1, σ2, c1, c2, j2⟩ := (both h (fun τ hτ => n_fault hτ (gI σ 497 0 (i + 1))) (fun τ hτ => u_fault hτ (gI σ 497 0 (i + 1)))).2
  have k1 := ck_Cc _ _ _ _ _ _ c1
  have k2 := ck_Cc _ _ _ _ _ _ c2
  refine ⟨σ2, _, ?_, j2, fun a b => (k2 a b).trans (k1 a b)⟩
  rw [v_L_law_415, hs, nI_clamp (show L < 2 ^ 31 by omega), nI_1, ix_nI (show i + 1 < L by omega) (show L < 2 ^ 31 by omega), c1, cI_s, k1 1 0, hs, nI_clamp (show L < 2 ^ 31 by omega), ix_nI (show i + 1 < L by omega) (show L < 2 ^ 31 by omega), k1 0 (i + 1), c2, cI_s, if_pos rfl]
theorem L_438 {σ : St} {S : AZ} {i L : Nat} (h : JB σ S) (hs : gI σ 497 1 0 = nI L) (hi : i + 6 ≤ L) (hL : L ≤ 3072) : LZP σ i (Vv 372 0 438 [some (vR 497 0), some (vR 88 0), some (vR 96 0), some (vI (nI i))] [] σ) := by
  obtain ⟨σ1, σ2, c1, c2, j2⟩ := (both h (fun τ hτ => (m_place hτ.1 (gI σ 497 0 (i + 1)) (gI σ 497 0 (i + 2))).st hτ) (fun τ hτ => (t_place hτ.1 (gI σ 497 0 (i + 1)) (gI σ 497 0 (i + 2))).rc.st hτ)).2
  have k1 := ck_Cc _ _ _ _ _ _ c1
  have k2 := ck_Cc _ _ _ _ _ _ c2
  refine ⟨σ2, _, ?_, j2, fun a b => (k2 a b).trans (k1 a b)⟩
  rw [v_L_law_438, hs, nI_clamp (show L < 2 ^ 31 by omega), nI_1, nI_2, ix_nI (show i + 1 < L by omega) (show L < 2 ^ 31 by omega), ix_nI (show i + 2 < L by omega) (show L < 2 ^ 31 by omega), c1, cI_s, k1 1 0, hs, nI_clamp (show L < 2 ^ 31 by omega), ix_nI (show i + 1 < L by omega) (show L < 2 ^ 31 by omega), ix_nI (show i + 2 < L by omega) (show L < 2 ^ 31 by omega), k1 0 (i + 1), k1 0 (i + 2), c2, cI_s, if_pos rfl]
theorem L_471 {σ : St} {S : AZ} {i L : Nat} (h : JB σ S) (hs : gI σ 497 1 0 = nI L) (hi : i + 6 ≤ L) (hL : L ≤ 3072) : LZP σ i (Vv 372 0 471 [some (vR 497 0), some (vR 88 0), some (vR 96 0), some (vI (nI i))] [] σ) := by
  obtain ⟨σ1, σ2, c1, c2, j2⟩ := (both h (fun τ hτ => (m_mark hτ.1 (gI σ 497 0 (i + 1)) (gI σ 497 0 (i + 2))).st hτ) (fun τ hτ => (t_mark hτ.1 (gI σ 497 0 (i + 1)) (gI σ 497 0 (i + 2))).rc.st hτ)).2
  have k1 := ck_Cc _ _ _ _ _ _ c1
  have k2 := ck_Cc _ _ _ _ _ _ c2
  refine ⟨σ2, _, ?_, j2, fun a b => (k2 a b).trans (k1 a b)⟩
  rw [v_L_law_471, hs, nI_clamp (show L < 2 ^ 31 by omega), nI_1, nI_2, ix_nI (show i + 1 < L by omega) (show L < 2 ^ 31 by omega), ix_nI (show i + 2 < L by omega) (show L < 2 ^ 31 by omega), c1, cI_s, k1 1 0, hs, nI_clamp (show L < 2 ^ 31 by omega), ix_nI (show i + 1 < L by omega) (show L < 2 ^ 31 by omega), ix_nI (show i + 2 < L by omega) (show L < 2 ^ 31 by omega), k1 0 (i + 1), k1 0 (i + 2), c2, cI_s, if_pos rfl]
theorem L_504 {σ : St} {S : AZ} {i L : Nat} (h : JB σ S) (hs : gI σ 497 1 0 = nI L) (hi : i + 6 ≤ L) (hL : L ≤ 3072) : LZP σ i (Vv 372 0 504 [some (vR 497 0), some (vR 88 0), some (vR 96 0), some (vI (nI i))] [] σ) := by
  obtain ⟨σ1, σ2, c1, c2, j2⟩ := (both h (fun τ hτ => (m_flue hτ.1 (gI σ 497 0 (i + 1)) (gI σ 497 0 (i + 2))).st hτ) (fun τ hτ => (t_flue hτ.1 (gI σ 497 0 (i + 1)) (gI σ 497 0 (i + 2))).rc.st hτ)).2
  have k1 := ck_Cc _ _ _ _ _ _ c1
  have k2 := ck_Cc _ _ _ _ _ _ c2
  refine ⟨σ2, _, ?_, j2, fun a b => (k2 a b).trans (k1 a b)⟩
  rw [v_L_law_504, hs, nI_clamp (show L < 2 ^ 31 by omega), nI_1, nI_2, ix_nI (show i + 1 < L by omega) (show L < 2 ^ 31 by omega), ix_nI (show i + 2 < L by omega) (show L < 2 ^ 31 by omega), c1, cI_s, k1 1 0, hs, nI_clamp (show L < 2 ^ 31 by omega), ix_nI (show i + 1 < L by omega) (show L < 2 ^ 31 by omega), ix_nI (show i + 2 < L by omega) (show L < 2 ^ 31 by omega), k1 0 (i + 1), k1 0 (i + 2), c2, cI_s, if_pos rfl]
theorem L_537 {σ : St} {S : AZ} {i L : Nat} (h : JB σ S) (hs : gI σ 497 1 0 = nI L) (hi : i + 6 ≤ L) (hL : L ≤ 3072) : LZP σ i (Vv 372 0 537 [some (vR 497 0), some (vR 88 0), some (vR 96 0), some (vI (nI i))] [] σ) := by
  obtain ⟨σ1, σ2, c1, c2, j2⟩ := (both h (fun τ hτ => (m_looker hτ.1 (gI σ 497 0 (i + 1)) (gI σ 497 0 (i + 2))).st hτ) (fun τ hτ => (t_looker hτ.1 (gI σ 497 0 (i + 1)) (gI σ 497 0 (i + 2))).rc.st hτ)).2
  have k1 := ck_Cc _ _ _ _ _ _ c1
  have k2 := ck_Cc _ _ _ _ _ _ c2
  refine ⟨σ2, _, ?_, j2, fun a b => (k2 a b).trans (k1 a b)⟩
  rw [v_L_law_537, hs, nI_clamp (show L < 2 ^ 31 by omega), nI_1, nI_2, ix_nI (show i + 1 < L by omega) (show L < 2 ^ 31 by omega), ix_nI (show i + 2 < L by omega) (show L < 2 ^ 31 by omega), c1, cI_s, k1 1 0, hs, nI_clamp (show L < 2 ^ 31 by omega), ix_nI (show i + 1 < L by omega) (show L < 2 ^ 31 by omega), ix_nI (show i + 2 < L by omega) (show L < 2 ^ 31 by omega), k1 0 (i + 1), k1 0 (i + 2), c2, cI_s, if_pos rfl]
theorem L_570 {σ : St} {S : AZ} {i L : Nat} (h : JB σ S) (hs : gI σ 497 1 0 = nI L) (hi : i + 6 ≤ L) (hL : L ≤ 3072) : LZP σ i (Vv 372 0 570 [some (vR 497 0), some (vR 88 0), some (vR 96 0), some (vI (nI i))] [] σ) := by
  obtain ⟨σ1, σ2, c1, c2, j2⟩ := (both h (fun τ hτ => (m_ways hτ.1 (gI σ 497 0 (i + 1))).st hτ) (fun τ hτ => (t_ways hτ.1 (gI σ 497 0 (i + 1))).rc.st hτ)).2
  have k1 := ck_Cc _ _ _ _ _ _ c1
  have k2 := ck_Cc _ _ _ _ _ _ c2
  refine ⟨σ2, _, ?_, j2, fun a b => (k2 a b).trans (k1 a b)⟩
  rw [v_L_law_570, hs, nI_clamp (show L < 2 ^ 31 by omega), nI_1, ix_nI (show i + 1 < L by omega) (show L < 2 ^ 31 by omega), c1, cI_s, k1 1 0, hs, nI_clamp (show L < 2 ^ 31 by omega), ix_nI (show i + 1 < L by omega) (show L < 2 ^ 31 by omega), k1 0 (i + 1), c2, cI_s, if_pos rfl]
theorem L_593 {σ : St} {S : AZ} {i L : Nat} (h : JB σ S) (hs : gI σ 497 1 0 = nI L) (hi : i + 6 ≤ L) (hL : L ≤ 3072) : LZP σ i (Vv 372 0 593 [some (vR 497 0), some (vR 88 0), some (vR 96 0), some (vI (nI i))] [] σ) := by
  obtain ⟨σ1, σ2, c1, c2, j2⟩ := (both h (fun τ hτ => (m_sees hτ.1 (gI σ 497 0 (i + 1))).st hτ) (fun τ hτ => (t_sees hτ.1 (gI σ 497 0 (i + 1))).rc.st hτ)).2
  have k1 := ck_Cc _ _ _ _ _ _ c1
  have k2 := ck_Cc _ _ _ _ _ _ c2
  refine ⟨σ2, _, ?_, j2, fun a b => (k2 a b).trans (k1 a b)⟩
  rw [v_L_law_593, hs, nI_clamp (show L < 2 ^ 31 by omega), nI_1, ix_nI (show i + 1 < L by omega) (show L < 2 ^ 31 by omega), c1, cI_s, k1 1 0, hs, nI_clamp (show L < 2 ^ 31 by omega), ix_nI (show i + 1 < L by omega) (show L < 2 ^ 31 by omega), k1 0 (i + 1), c2, cI_s, if_pos rfl]
theorem L_616 {σ : St} {S : AZ} {i L : Nat} (h : JB σ S) (hs : gI σ 497 1 0 = nI L) (hi : i + 6 ≤ L) (hL : L ≤ 3072) : LZP σ i (Vv 372 0 616 [some (vR 497 0), some (vR 88 0), some (vR 96 0), some (vI (nI i))] [] σ) := by
  obtain ⟨σ1, σ2, c1, c2, j2⟩ := (both h (fun τ hτ => (m_from hτ.1 (gI σ 497 0 (i + 1))).st hτ) (fun τ hτ => (t_from hτ.1 (gI σ 497 0 (i + 1))).rc.st hτ)).2
  have k1 := ck_Cc _ _ _ _ _ _ c1
  have k2 := ck_Cc _ _ _ _ _ _ c2
  refine ⟨σ2, _, ?_, j2, fun a b => (k2 a b).trans (k1 a b)⟩
  rw [v_L_law_616, hs, nI_clamp (show L < 2 ^ 31 by omega), nI_1, ix_nI (show i + 1 < L by omega) (show L < 2 ^ 31 by omega), c1, cI_s, k1 1 0, hs, nI_clamp (show L < 2 ^ 31 by omega), ix_nI (show i + 1 < L by omega) (show L < 2 ^ 31 by omega), k1 0 (i + 1), c2, cI_s, if_pos rfl]
theorem L_639 {σ : St} {S : AZ} {i L : Nat} (h : JB σ S) (hs : gI σ 497 1 0 = nI L) (hi : i + 6 ≤ L) (hL : L ≤ 3072) : LZP σ i (Vv 372 0 639 [some (vR 497 0), some (vR 88 0), some (vR 96 0), some (vI (nI i))] [] σ) := by
  obtain ⟨σ1, σ2, c1, c2, j2⟩ := (both h (fun τ hτ => (m_hides hτ.1 (gI σ 497 0 (i + 1)) (gI σ 497 0 (i + 2))).st hτ) (fun τ hτ => (t_hides hτ.1 (gI σ 497 0 (i + 1)) (gI σ 497 0 (i + 2))).rc.st hτ)).2
  have k1 := ck_Cc _ _ _ _ _ _ c1
  have k2 := ck_Cc _ _ _ _ _ _ c2
  refine ⟨σ2, _, ?_, j2, fun a b => (k2 a b).trans (k1 a b)⟩
  rw [v_L_law_639, hs, nI_clamp (show L < 2 ^ 31 by omega), nI_1, nI_2, ix_nI (show i + 1 < L by omega) (show L < 2 ^ 31 by omega), ix_nI (show i + 2 < L by omega) (show L < 2 ^ 31 by omega), c1, cI_s, k1 1 0, hs, nI_clamp (show L < 2 ^ 31 by omega), ix_nI (show i + 1 < L by omega) (show L < 2 ^ 31 by omega), ix_nI (show i + 2 < L by omega) (show L < 2 ^ 31 by omega), k1 0 (i + 1), k1 0 (i + 2), c2, cI_s, if_pos rfl]
theorem L_672 {σ : St} {S : AZ} {i L : Nat} (h : JB σ S) (hs : gI σ 497 1 0 = nI L) (hi : i + 6 ≤ L) (hL : L ≤ 3072) : LZP σ i (Vv 372 0 672 [some (vR 497 0), some (vR 88 0), some (vR 96 0), some (vI (nI i))] [] σ) := by
  obtain ⟨σ1, σ2, c1, c2, j2⟩ := (both h (fun τ hτ => (m_worth hτ.1 (gI σ 497 0 (i + 1))).st hτ) (fun τ hτ => (t_worth hτ.1 (gI σ 497 0 (i + 1))).rc.st hτ)).2
  have k1 := ck_Cc _ _ _ _ _ _ c1
  have k2 := ck_Cc _ _ _ _ _ _ c2
  refine ⟨σ2, _, ?_, j2, fun a b => (k2 a b).trans (k1 a b)⟩
  rw [v_L_law_672, hs, nI_clamp (show L < 2 ^ 31 by omega), nI_1, ix_nI (show i + 1 < L by omega) (show L < 2 ^ 31 by omega), c1, cI_s, k1 1 0, hs, nI_clamp (show L < 2 ^ 31 by omega), ix_nI (show i + 1 < L by omega) (show L < 2 ^ 31 by omega), k1 0 (i + 1), c2, cI_s, if_pos rfl]
theorem L_695 {σ : St} {S : AZ} {i L : Nat} (h : JB σ S) (hs : gI σ 497 1 0 = nI L) (hi : i + 6 ≤ L) (hL : L ≤ 3072) : LZP σ i (Vv 372 0 695 [some (vR 497 0), some (vR 88 0), some (vR 96 0), some (vI (nI i))] [] σ) := by
  obtain ⟨σ1, σ2, c1, c2, j2⟩ := (both h (fun τ hτ => (m_blind hτ.1 ).st hτ) (fun τ hτ => (t_blind hτ.1 ).rc.st hτ)).2
  have k1 := ck_Cc _ _ _ _ _ _ c1
  have k2 := ck_Cc _ _ _ _ _ _ c2
  refine ⟨σ2, _, ?_, j2, fun a b => (k2 a b).trans (k1 a b)⟩
  rw [v_L_law_695, c1, cI_s, c2, cI_s, if_pos rfl]
theorem L_708 {σ : St} {S : AZ} {i L : Nat} (h : JB σ S) (hs : gI σ 497 1 0 = nI L) (hi : i + 6 ≤ L) (hL : L ≤ 3072) : LZP σ i (Vv 372 0 708 [some (vR 497 0), some (vR 88 0), some (vR 96 0), some (vI (nI i))] [] σ) := by
  obtain ⟨σ1, σ2, c1, c2, j2⟩ := (both h (fun τ hτ => (m_lost hτ.1 ).st hτ) (fun τ hτ => (t_lost hτ.1 ).rc.st hτ)).2
  have k1 := ck_Cc _ _ _ _ _ _ c1
  have k2 := ck_Cc _ _ _ _ _ _ c2
  refine ⟨σ2, _, ?_, j2, fun a b => (k2 a b).trans (k1 a b)⟩
  rw [v_L_law_708, c1, cI_s, c2, cI_s, if_pos rfl]
theorem L_721 {σ : St} {S : AZ} {i L : Nat} (h : JB σ S) (hs : gI σ 497 1 0 = nI L) (hi : i + 6 ≤ L) (hL : L ≤ 3072) : LZP σ i (Vv 372 0 721 [some (vR 497 0), some (vR 88 0), some (vR 96 0), some (vI (nI i))] [] σ) := by
  obtain ⟨σ1, σ2, c1, c2, j2⟩ := (both h (fun τ hτ => (m_best hτ.1 ).st hτ) (fun τ hτ => (t_best hτ.1 ).rc.st hτ)).2
  have k1 := ck_Cc _ _ _ _ _ _ c1
  have k2 := ck_Cc _ _ _ _ _ _ c2
  refine ⟨σ2, _, ?_, j2, fun a b => (k2 a b).trans (k1 a b)⟩
  rw [v_L_law_721, c1, cI_s, c2, cI_s, if_pos rfl]
theorem L_734 {σ : St} {S : AZ} {i L : Nat} (h : JB σ S) (hs : gI σ 497 1 0 = nI L) (hi : i + 6 ≤ L) (hL : L ≤ 3072) : LZP σ i (Vv 372 0 734 [some (vR 497 0), some (vR 88 0), some (vR 96 0), some (vI (nI i))] [] σ) := by
  obtain ⟨σ1, σ2, c1, c2, j2⟩ := (both h (fun τ hτ => (m_at hτ.1 (gI σ 497 0 (i + 1)) (gI σ 497 0 (i + 2))).st hτ) (fun τ hτ => (t_at hτ.1 (gI σ 497 0 (i + 1)) (gI σ 497 0 (i + 2))).rc.st hτ)).2
  have k1 := ck_Cc _ _ _ _ _ _ c1
  have k2 := ck_Cc _ _ _ _ _ _ c2
  refine ⟨σ2, _, ?_, j2, fun a b => (k2 a b).trans (k1 a b)⟩
  rw [v_L_law_734, hs, nI_clamp (show L < 2 ^ 31 by omega), nI_1, nI_2, ix_nI (show i + 1 < L by omega) (show L < 2 ^ 31 by omega), ix_nI (show i + 2 < L by omega) (show L < 2 ^ 31 by omega), c1, cI_s, k1 1 0, hs, nI_clamp (show L < 2 ^ 31 by omega), ix_nI (show i + 1 < L by omega) (show L < 2 ^ 31 by omega), ix_nI (show i + 2 < L by omega) (show L < 2 ^ 31 by omega), k1 0 (i + 1), k1 0 (i + 2), c2, cI_s, if_pos rfl]
theorem L_767 {σ : St} {S : AZ} {i L : Nat} (h : JB σ S) (hs : gI σ 497 1 0 = nI L) (hi : i + 6 ≤ L) (hL : L ≤ 3072) : LZP σ i (Vv 372 0 767 [some (vR 497 0), some (vR 88 0), some (vR 96 0), some (vI (nI i))] [] σ) := by
  obtain ⟨σ1, σ2, c1, c2, j2⟩ := (both h (fun τ hτ => (m_who hτ.1 (gI σ 497 0 (i + 1)) (gI σ 497 0 (i + 2))).st hτ) (fun τ hτ => (t_who hτ.1 (gI σ 497 0 (i + 1)) (gI σ 497 0 (i + 2))).rc.st hτ)).2
  have k1 := ck_Cc _ _ _ _ _ _ c1
  have k2 := ck_Cc _ _ _ _ _ _ c2
  refine ⟨σ2, _, ?_, j2, fun a b => (k2 a b).trans (k1 a b)⟩
  rw [v_L_law_767, hs, nI_clamp (show L < 2 ^ 31 by omega), nI_1, nI_2, ix_nI (show i + 1 < L by omega) (show L < 2 ^ 31 by omega), ix_nI (show i + 2 < L by omega) (show L < 2 ^ 31 by omega), c1, cI_s, k1 1 0, hs, nI_clamp (show L < 2 ^ 31 by omega), ix_nI (show i + 1 < L by omega) (show L < 2 ^ 31 by omega), ix_nI (show i + 2 < L by omega) (show L < 2 ^ 31 by omega), k1 0 (i + 1), k1 0 (i + 2), c2, cI_s, if_pos rfl]
theorem L_800 {σ : St} {S : AZ} {i L : Nat} (h : JB σ S) (hs : gI σ 497 1 0 = nI L) (hi : i + 6 ≤ L) (hL : L ≤ 3072) : LZP σ i (Vv 372 0 800 [some (vR 497 0), some (vR 88 0), some (vR 96 0), some (vI (nI i))] [] σ) := by
  obtain ⟨σ1, σ2, c1, c2, j2⟩ := (both h (fun τ hτ => (m_seen hτ.1 (gI σ 497 0 (i + 1)) (gI σ 497 0 (i + 2))).st hτ) (fun τ hτ => (t_seen hτ.1 (gI σ 497 0 (i + 1)) (gI σ 497 0 (i + 2))).rc.st hτ)).2
  have k1 := ck_Cc _ _ _ _ _ _ c1
  have k2 := ck_Cc _ _ _ _ _ _ c2
  refine ⟨σ2, _, ?_, j2, fun a b => (k2 a b).trans (k1 a b)⟩
  rw [v_L_law_800, hs, nI_clamp (show L < 2 ^ 31 by omega), nI_1, nI_2, ix_nI (show i + 1 < L by omega) (show L < 2 ^ 31 by omega), ix_nI (show i + 2 < L by omega) (show L < 2 ^ 31 by omega), c1, cI_s, k1 1 0, hs, nI_clamp (show L < 2 ^ 31 by omega), ix_nI (show i + 1 < L by omega) (show L < 2 ^ 31 by omega), ix_nI (show i + 2 < L by omega) (show L < 2 ^ 31 by omega), k1 0 (i + 1), k1 0 (i + 2), c2, cI_s, if_pos rfl]
theorem L_833 {σ : St} {S : AZ} {i L : Nat} (h : JB σ S) (hs : gI σ 497 1 0 = nI L) (hi : i + 6 ≤ L) (hL : L ≤ 3072) : LZP σ i (Vv 372 0 833 [some (vR 497 0), some (vR 88 0), some (vR 96 0), some (vI (nI i))] [] σ) := by
  obtain ⟨σ1, σ2, c1, c2, j2⟩ := (both h (fun τ hτ => (m_joy hτ.1 (gI σ 497 0 (i + 1)) (gI σ 497 0 (i + 2))).st hτ) (fun τ hτ => (t_joy hτ.1 (gI σ 497 0 (i + 1)) (gI σ 497 0 (i + 2))).rc.st hτ)).2
  have k1 := ck_Cc _ _ _ _ _ _ c1
  have k2 := ck_Cc _ _ _ _ _ _ c2
  refine ⟨σ2, _, ?_, j2, fun a b => (k2 a b).trans (k1 a b)⟩
  rw [v_L_law_833, hs, nI_clamp (show L < 2 ^ 31 by omega), nI_1, nI_2, ix_nI (show i + 1 < L by omega) (show L < 2 ^ 31 by omega), ix_nI (show i + 2 < L by omega) (show L < 2 ^ 31 by omega), c1, cI_s, k1 1 0, hs, nI_clamp (show L < 2 ^ 31 by omega), ix_nI (show i + 1 < L by omega) (show L < 2 ^ 31 by omega), ix_nI (show i + 2 < L by omega) (show L < 2 ^ 31 by omega), k1 0 (i + 1), k1 0 (i + 2), c2, cI_s, if_pos rfl]
theorem L_866 {σ : St} {S : AZ} {i L : Nat} (h : JB σ S) (hs : gI σ 497 1 0 = nI L) (hi : i + 6 ≤ L) (hL : L ≤ 3072) : LZP σ i (Vv 372 0 866 [some (vR 497 0), some (vR 88 0), some (vR 96 0), some (vI (nI i))] [] σ) := by
  obtain ⟨σ1, σ2, c1, c2, j2⟩ := (both h (fun τ hτ => (m_life hτ.1 (gI σ 497 0 (i + 1))).st hτ) (fun τ hτ => (t_life hτ.1 (gI σ 497 0 (i + 1))).rc.st hτ)).2
  have k1 := ck_Cc _ _ _ _ _ _ c1
  have k2 := ck_Cc _ _ _ _ _ _ c2
  refine ⟨σ2, _, ?_, j2, fun a b => (k2 a b).trans (k1 a b)⟩
  rw [v_L_law_866, hs, nI_clamp (show L < 2 ^ 31 by omega), nI_1, ix_nI (show i + 1 < L by omega) (show L < 2 ^ 31 by omega), c1, cI_s, k1 1 0, hs, nI_clamp (show L < 2 ^ 31 by omega), ix_nI (show i + 1 < L by omega) (show L < 2 ^ 31 by omega), k1 0 (i + 1), c2, cI_s, if_pos rfl]
theorem L_889 {σ : St} {S : AZ} {i L : Nat} (h : JB σ S) (hs : gI σ 497 1 0 = nI L) (hi : i + 6 ≤ L) (hL : L ≤ 3072) : LZP σ i (Vv 372 0 889 [some (vR 497 0), some (vR 88 0), some (vR 96 0), some (vI (nI i))] [] σ) := by
  obtain ⟨σ1, σ2, c1, c2, j2⟩ := (both h (fun τ hτ => (m_sad hτ.1 ).st hτ) (fun τ hτ => (t_sad hτ.1 ).rc.st hτ)).2
  have k1 := ck_Cc _ _ _ _ _ _ c1
  have k2 := ck_Cc _ _ _ _ _ _ c2
  refine ⟨σ2, _, ?_, j2, fun a b => (k2 a b).trans (k1 a b)⟩
  rw [v_L_law_889, c1, cI_s, c2, cI_s, if_pos rfl]
theorem L_902 {σ : St} {S : AZ} {i L : Nat} (h : JB σ S) (hs : gI σ 497 1 0 = nI L) (hi : i + 6 ≤ L) (hL : L ≤ 3072) : LZP σ i (Vv 372 0 902 [some (vR 497 0), some (vR 88 0), some (vR 96 0), some (vI (nI i))] [] σ) := by
  obtain ⟨σ1, σ2, c1, c2, j2⟩ := (both h (fun τ hτ => (m_drill hτ.1 (gI σ 497 0 (i + 1))).st hτ) (fun τ hτ => (t_drill hτ.1 (gI σ 497 0 (i + 1))).rc.st hτ)).2
  have k1 := ck_Cc _ _ _ _ _ _ c1
  have k2 := ck_Cc _ _ _ _ _ _ c2
  refine ⟨σ2, _, ?_, j2, fun a b => (k2 a b).trans (k1 a b)⟩
  rw [v_L_law_902, hs, nI_clamp (show L < 2 ^ 31 by omega), nI_1, ix_nI (show i + 1 < L by omega) (show L < 2 ^ 31 by omega), c1, cI_s, k1 1 0, hs, nI_clamp (show L < 2 ^ 31 by omega), ix_nI (show i + 1 < L by omega) (show L < 2 ^ 31 by omega), k1 0 (i + 1), c2, cI_s, if_pos rfl]
theorem L_925 {σ : St} {S : AZ} {i L : Nat} (h : JB σ S) (hs : gI σ 497 1 0 = nI L) (hi : i + 6 ≤ L) (hL : L ≤ 3072) : LZP σ i (Vv 372 0 925 [some (vR 497 0), some (vR 88 0), some (vR 96 0), some (vI (nI i))] [] σ) := by
  obtain ⟨σ1, σ2, c1, c2, j2⟩ := (both h (fun τ hτ => (m_glad hτ.1 (gI σ 497 0 (i + 1))).st hτ) (fun τ hτ => (t_glad hτ.1 (gI σ 497 0 (i + 1))).rc.st hτ)).2
  have k1 := ck_Cc _ _ _ _ _ _ c1
  have k2 := ck_Cc _ _ _ _ _ _ c2
  refine ⟨σ2, _, ?_, j2, fun a b => (k2 a b).trans (k1 a b)⟩
  rw [v_L_law_925, hs, nI_clamp (show L < 2 ^ 31 by omega), nI_1, ix_nI (show i + 1 < L by omega) (show L < 2 ^ 31 by omega), c1, cI_s, k1 1 0, hs, nI_clamp (show L < 2 ^ 31 by omega), ix_nI (show i + 1 < L by omega) (show L < 2 ^ 31 by omega), k1 0 (i + 1), c2, cI_s, if_pos rfl]
theorem L_948 {σ : St} {S : AZ} {i L : Nat} (h : JB σ S) (hs : gI σ 497 1 0 = nI L) (hi : i + 6 ≤ L) (hL : L ≤ 3072) : LZP σ i (Vv 372 0 948 [some (vR 497 0), some (vR 88 0), some (vR 96 0), some (vI (nI i))] [] σ) := by
  obtain ⟨σ1, σ2, c1, c2, j2⟩ := (both h (fun τ hτ => (m_often hτ.1 (gI σ 497 0 (i + 1))).st hτ) (fun τ hτ => (t_often hτ.1 (gI σ 497 0 (i + 1))).rc.st hτ)).2
  have k1 := ck_Cc _ _ _ _ _ _ c1
  have k2 := ck_Cc _ _ _ _ _ _ c2
  refine ⟨σ2, _, ?_, j2, fun a b => (k2 a b).trans (k1 a b)⟩
  rw [v_L_law_948, hs, nI_clamp (show L < 2 ^ 31 by omega), nI_1, ix_nI (show i + 1 < L by omega) (show L < 2 ^ 31 by omega), c1, cI_s, k1 1 0, hs, nI_clamp (show L < 2 ^ 31 by omega), ix_nI (show i + 1 < L by omega) (show L < 2 ^ 31 by omega), k1 0 (i + 1), c2, cI_s, if_pos rfl]
theorem L_971 {σ : St} {S : AZ} {i L : Nat} (h : JB σ S) (hs : gI σ 497 1 0 = nI L) (hi : i + 6 ≤ L) (hL : L ≤ 3072) : LZP σ i (Vv 372 0 971 [some (vR 497 0), some (vR 88 0), some (vR 96 0), some (vI (nI i))] [] σ) := by
  obtain ⟨σ1, σ2, c1, c2, j2⟩ := (both h (fun τ hτ => (m_round hτ.1 ).st hτ) (fun τ hτ => (t_round hτ.1 ).rc.st hτ)).2
  have k1 := ck_Cc _ _ _ _ _ _ c1
  have k2 := ck_Cc _ _ _ _ _ _ c2
  refine ⟨σ2, _, ?_, j2, fun a b => (k2 a b).trans (k1 a b)⟩
  rw [v_L_law_971, c1, cI_s, c2, cI_s, if_pos rfl]
theorem L_984 {σ : St} {S : AZ} {i L : Nat} (h : JB σ S) (hs : gI σ 497 1 0 = nI L) (hi : i + 6 ≤ L) (hL : L ≤ 3072) : LZP σ i (Vv 372 0 984 [some (vR 497 0), some (vR 88 0), some (vR 96 0), some (vI (nI i))] [] σ) := by
  obtain ⟨σ1, σ2, c1, c2, j2⟩ := (both h (fun τ hτ => (m_walks hτ.1 (gI σ 497 0 (i + 1))).st hτ) (fun τ hτ => (t_walks hτ.1 (gI σ 497 0 (i + 1))).rc.st hτ)).2
  have k1 := ck_Cc _ _ _ _ _ _ c1
  have k2 := ck_Cc _ _ _ _ _ _ c2
  refine ⟨σ2, _, ?_, j2, fun a b => (k2 a b).trans (k1 a b)⟩
  rw [v_L_law_984, hs, nI_clamp (show L < 2 ^ 31 by omega), nI_1, ix_nI (show i + 1 < L by omega) (show L < 2 ^ 31 by omega), c1, cI_s, k1 1 0, hs, nI_clamp (show L < 2 ^ 31 by omega), ix_nI (show i + 1 < L by omega) (show L < 2 ^ 31 by omega), k1 0 (i + 1), c2, cI_s, if_pos rfl]
theorem L_1007 {σ : St} {S : AZ} {i L : Nat} (h : JB σ S) (hs : gI σ 497 1 0 = nI L) (hi : i + 6 ≤ L) (hL : L ≤ 3072) : LZP σ i (Vv 372 0 1007 [some (vR 497 0), some (vR 88 0), some (vR 96 0), some (vI (nI i))] [] σ) := by
  obtain ⟨σ1, σ2, c1, c2, j2⟩ := (both h (fun τ hτ => (m_feast hτ.1 ).st hτ) (fun τ hτ => (t_feast hτ.1 ).rc.st hτ)).2
  have k1 := ck_Cc _ _ _ _ _ _ c1
  have k2 := ck_Cc _ _ _ _ _ _ c2
  refine ⟨σ2, _, ?_, j2, fun a b => (k2 a b).trans (k1 a b)⟩
  rw [v_L_law_1007, c1, cI_s, c2, cI_s, if_pos rfl]
theorem L_1020 {σ : St} {S : AZ} {i L : Nat} (h : JB σ S) (hs : gI σ 497 1 0 = nI L) (hi : i + 6 ≤ L) (hL : L ≤ 3072) : LZP σ i (Vv 372 0 1020 [some (vR 497 0), some (vR 88 0), some (vR 96 0), some (vI (nI i))] [] σ) := by
  obtain ⟨σ1, σ2, c1, c2, j2⟩ := (both h (fun τ hτ => (m_envies hτ.1 (gI σ 497 0 (i + 1)) (gI σ 497 0 (i + 2))).st hτ) (fun τ hτ => (t_envies hτ.1 (gI σ 497 0 (i + 1)) (gI σ 497 0 (i + 2))).rc.st hτ)).2
  have k1 := ck_Cc _ _ _ _ _ _ c1
  have k2 := ck_Cc _ _ _ _ _ _ c2
  refine ⟨σ2, _, ?_, j2, fun a b => (k2 a b).trans (k1 a b)⟩
  rw [v_L_law_1020, hs, nI_clamp (show L < 2 ^ 31 by omega), nI_1, nI_2, ix_nI (show i + 1 < L by omega) (show L < 2 ^ 31 by omega), ix_nI (show i + 2 < L by omega) (show L < 2 ^ 31 by omega), c1, cI_s, k1 1 0, hs, nI_clamp (show L < 2 ^ 31 by omega), ix_nI (show i + 1 < L by omega) (show L < 2 ^ 31 by omega), ix_nI (show i + 2 < L by omega) (show L < 2 ^ 31 by omega), k1 0 (i + 1), k1 0 (i + 2), c2, cI_s, if_pos rfl]
theorem L_1053 {σ : St} {S : AZ} {i L : Nat} (h : JB σ S) (hs : gI σ 497 1 0 = nI L) (hi : i + 6 ≤ L) (hL : L ≤ 3072) : LZP σ i (Vv 372 0 1053 [some (vR 497 0), some (vR 88 0), some (vR 96 0), some (vI (nI i))] [] σ) := by
  obtain ⟨σ1, σ2, c1, c2, j2⟩ := (both h (fun τ hτ => (m_trade hτ.1 (gI σ 497 0 (i + 1))).st hτ) (fun τ hτ => (t_trade hτ.1 (gI σ 497 0 (i + 1))).rc.st hτ)).2
  have k1 := ck_Cc _ _ _ _ _ _ c1
  have k2 := ck_Cc _ _ _ _ _ _ c2
  refine ⟨σ2, _, ?_, j2, fun a b => (k2 a b).trans (k1 a b)⟩
  rw [v_L_law_1053, hs, nI_clamp (show L < 2 ^ 31 by omega), nI_1, ix_nI (show i + 1 < L by omega) (show L < 2 ^ 31 by omega), c1, cI_s, k1 1 0, hs, nI_clamp (show L < 2 ^ 31 by omega), ix_nI (show i + 1 < L by omega) (show L < 2 ^ 31 by omega), k1 0 (i + 1), c2, cI_s, if_pos rfl]
theorem L_1076 {σ : St} {S : AZ} {i L : Nat} (h : JB σ S) (hs : gI σ 497 1 0 = nI L) (hi : i + 6 ≤ L) (hL : L ≤ 3072) : LZP σ i (Vv 372 0 1076 [some (vR 497 0), some (vR 88 0), some (vR 96 0), some (vI (nI i))] [] σ) := by
  obtain ⟨σ1, σ2, c1, c2, j2⟩ := (both h (fun τ hτ => (m_roster hτ.1 ).st hτ) (fun τ hτ => (t_roster hτ.1 ).st hτ)).2
  have k1 := ck_Cc _ _ _ _ _ _ c1
  have k2 := ck_Cc _ _ _ _ _ _ c2
  refine ⟨σ2, _, ?_, j2, fun a b => (k2 a b).trans (k1 a b)⟩
  rw [v_L_law_1076, c1, cI_s, c2, cI_s, if_pos rfl]
theorem L_1089 {σ : St} {S : AZ} {i L : Nat} (h : JB σ S) (hs : gI σ 497 1 0 = nI L) (hi : i + 6 ≤ L) (hL : L ≤ 3072) : LZP σ i (Vv 372 0 1089 [some (vR 497 0), some (vR 88 0), some (vR 96 0), some (vI (nI i))] [] σ) := by
  obtain ⟨σ1, σ2, c1, c2, j2⟩ := (both h (fun τ hτ => (m_put hτ.1 (gI σ 497 0 (i + 1))).st hτ) (fun τ hτ => (t_put hτ.1 (gI σ 497 0 (i + 1))).st hτ)).2
  have k1 := ck_Cc _ _ _ _ _ _ c1
  have k2 := ck_Cc _ _ _ _ _ _ c2
  refine ⟨σ2, _, ?_, j2, fun a b => (k2 a b).trans (k1 a b)⟩
  rw [v_L_law_1089, hs, nI_clamp (show L < 2 ^ 31 by omega), nI_1, ix_nI (show i + 1 < L by omega) (show L < 2 ^ 31 by omega), c1, cI_s, k1 1 0, hs, nI_clamp (show L < 2 ^ 31 by omega), ix_nI (show i + 1 < L by omega) (show L < 2 ^ 31 by omega), k1 0 (i + 1), c2, cI_s, if_pos rfl]
theorem L_1112 {σ : St} {S : AZ} {i L : Nat} (h : JB σ S) (hs : gI σ 497 1 0 = nI L) (hi : i + 6 ≤ L) (hL : L ≤ 3072) : LZP σ i (Vv 372 0 1112 [some (vR 497 0), some (vR 88 0), some (vR 96 0), some (vI (nI i))] [] σ) := by
  obtain ⟨σ1, σ2, c1, c2, j2⟩ := (both h (fun τ hτ => (m_rosters hτ.1 ).st hτ) (fun τ hτ => (t_rosters hτ.1 ).st hτ)).2
  have k1 := ck_Cc _ _ _ _ _ _ c1
  have k2 := ck_Cc _ _ _ _ _ _ c2
  refine ⟨σ2, _, ?_, j2, fun a b => (k2 a b).trans (k1 a b)⟩
  rw [v_L_law_1112, c1, cI_s, c2, cI_s, if_pos rfl]
theorem L_1125 {σ : St} {S : AZ} {i L : Nat} (h : JB σ S) (hs : gI σ 497 1 0 = nI L) (hi : i + 6 ≤ L) (hL : L ≤ 3072) : LZP σ i (Vv 372 0 1125 [some (vR 497 0), some (vR 88 0), some (vR 96 0), some (vI (nI i))] [] σ) := by
  obtain ⟨σ1, σ2, c1, c2, j2⟩ := (both h (fun τ hτ => (m_fair hτ.1 ).st hτ) (fun τ hτ => (t_fair hτ.1 ).st hτ)).2
  have k1 := ck_Cc _ _ _ _ _ _ c1
  have k2 := ck_Cc _ _ _ _ _ _ c2
  refine ⟨σ2, _, ?_, j2, fun a b => (k2 a b).trans (k1 a b)⟩
  rw [v_L_law_1125, c1, cI_s, c2, cI_s, if_pos rfl]
theorem L_1138 {σ : St} {S : AZ} {i L : Nat} (h : JB σ S) (hs : gI σ 497 1 0 = nI L) (hi : i + 6 ≤ L) (hL : L ≤ 3072) : LZP σ i (Vv 372 0 1138 [some (vR 497 0), some (vR 88 0), some (vR 96 0), some (vI (nI i))] [] σ) := by
  obtain ⟨σ1, σ2, c1, c2, j2⟩ := (both h (fun τ hτ => (m_shifts hτ.1 hτ.2.2.1 (gI σ 497 0 (i + 1))).st hτ) (fun τ hτ => (t_shifts hτ.1 hτ.2.2.1 (gI σ 497 0 (i + 1))).st hτ)).2
  have k1 := ck_Cc _ _ _ _ _ _ c1
  have k2 := ck_Cc _ _ _ _ _ _ c2
  refine ⟨σ2, _, ?_, j2, fun a b => (k2 a b).trans (k1 a b)⟩
  rw [v_L_law_1138, hs, nI_clamp (show L < 2 ^ 31 by omega), nI_1, ix_nI (show i + 1 < L by omega) (show L < 2 ^ 31 by omega), c1, cI_s, k1 1 0, hs, nI_clamp (show L < 2 ^ 31 by omega), ix_nI (show i + 1 < L by omega) (show L < 2 ^ 31 by omega), k1 0 (i + 1), c2, cI_s, if_pos rfl]
theorem L_1161 {σ : St} {S : AZ} {i L : Nat} (h : JB σ S) (hs : gI σ 497 1 0 = nI L) (hi : i + 6 ≤ L) (hL : L ≤ 3072) : LZP σ i (Vv 372 0 1161 [some (vR 497 0), some (vR 88 0), some (vR 96 0), some (vI (nI i))] [] σ) := by
  obtain ⟨σ1, σ2, c1, c2, j2⟩ := (both h (fun τ hτ => (m_first hτ.1 hτ.2.2.1 (gI σ 497 0 (i + 1))).st hτ) (fun τ hτ => (t_first hτ.1 hτ.2.2.1 (gI σ 497 0 (i + 1))).st hτ)).2
  have k1 := ck_Cc _ _ _ _ _ _ c1
  have k2 := ck_Cc _ _ _ _ _ _ c2
  refine ⟨σ2, _, ?_, j2, fun a b => (k2 a b).trans (k1 a b)⟩
  rw [v_L_law_1161, hs, nI_clamp (show L < 2 ^ 31 by omega), nI_1, ix_nI (show i + 1 < L by omega) (show L < 2 ^ 31 by omega), c1, cI_s, k1 1 0, hs, nI_clamp (show L < 2 ^ 31 by omega), ix_nI (show i + 1 < L by omega) (show L < 2 ^ 31 by omega), k1 0 (i + 1), c2, cI_s, if_pos rfl]
theorem L_1184 {σ : St} {S : AZ} {i L : Nat} (h : JB σ S) (hs : gI σ 497 1 0 = nI L) (hi : i + 6 ≤ L) (hL : L ≤ 3072) : LZP σ i (Vv 372 0 1184 [some (vR 497 0), some (vR 88 0), some (vR 96 0), some (vI (nI i))] [] σ) := by
  obtain ⟨σ1, σ2, c1, c2, j2⟩ := (both h (fun τ hτ => (m_reach hτ.1 ).st hτ) (fun τ hτ => (t_reach hτ.1 ).st hτ)).2
  have k1 := ck_Cc _ _ _ _ _ _ c1
  have k2 := ck_Cc _ _ _ _ _ _ c2
  refine ⟨σ2, _, ?_, j2, fun a b => (k2 a b).trans (k1 a b)⟩
  rw [v_L_law_1184, c1, cI_s, c2, cI_s, if_pos rfl]
theorem L_1197 {σ : St} {S : AZ} {i L : Nat} (h : JB σ S) (hs : gI σ 497 1 0 = nI L) (hi : i + 6 ≤ L) (hL : L ≤ 3072) : LZP σ i (Vv 372 0 1197 [some (vR 497 0), some (vR 88 0), some (vR 96 0), some (vI (nI i))] [] σ) := by
  obtain ⟨σ1, σ2, c1, c2, j2⟩ := (both h (fun τ hτ => (m_far hτ.1 ).st hτ) (fun τ hτ => (t_far hτ.1 ).st hτ)).2
  have k1 := ck_Cc _ _ _ _ _ _ c1
  have k2 := ck_Cc _ _ _ _ _ _ c2
  refine ⟨σ2, _, ?_, j2, fun a b => (k2 a b).trans (k1 a b)⟩
  rw [v_L_law_1197, c1, cI_s, c2, cI_s, if_pos rfl]
theorem L_1210 {σ : St} {S : AZ} {i L : Nat} (h : JB σ S) (hs : gI σ 497 1 0 = nI L) (hi : i + 6 ≤ L) (hL : L ≤ 3072) : LZP σ i (Vv 372 0 1210 [some (vR 497 0), some (vR 88 0), some (vR 96 0), some (vI (nI i))] [] σ) := by
  obtain ⟨σ1, σ2, c1, c2, j2⟩ := (both h (fun τ hτ => (m_lot hτ.1 (gI σ 497 0 (i + 1)) (gI σ 497 0 (i + 2)) (gI σ 497 0 (i + 3))).st hτ) (fun τ hτ => (t_lot hτ.1 (gI σ 497 0 (i + 1)) (gI σ 497 0 (i + 2)) (gI σ 497 0 (i + 3))).st hτ)).2
  have k1 := ck_Cc _ _ _ _ _ _ c1
  have k2 := ck_Cc _ _ _ _ _ _ c2
  refine ⟨σ2, _, ?_, j2, fun a b => (k2 a b).trans (k1 a b)⟩
  rw [v_L_law_1210, hs, nI_clamp (show L < 2 ^ 31 by omega), nI_1, nI_2, nI_3, ix_nI (show i + 1 < L by omega) (show L < 2 ^ 31 by omega), ix_nI (show i + 2 < L by omega) (show L < 2 ^ 31 by omega), ix_nI (show i + 3 < L by omega) (show L < 2 ^ 31 by omega), c1, cI_s, k1 1 0, hs, nI_clamp (show L < 2 ^ 31 by omega), ix_nI (show i + 1 < L by omega) (show L < 2 ^ 31 by omega), ix_nI (show i + 2 < L by omega) (show L < 2 ^ 31 by omega), ix_nI (show i + 3 < L by omega) (show L < 2 ^ 31 by omega), k1 0 (i + 1), k1 0 (i + 2), k1 0 (i + 3), c2, cI_s, if_pos rfl]
theorem L_1253 {σ : St} {S : AZ} {i L : Nat} (h : JB σ S) (hs : gI σ 497 1 0 = nI L) (hi : i + 6 ≤ L) (hL : L ≤ 3072) : LZP σ i (Vv 372 0 1253 [some (vR 497 0), some (vR 88 0), some (vR 96 0), some (vI (nI i))] [] σ) := by
  obtain ⟨σ1, σ2, c1, c2, j2⟩ := (both h (fun τ hτ => (m_share hτ.1 (gI σ 497 0 (i + 1)) (gI σ 497 0 (i + 2))).st hτ) (fun τ hτ => (t_share hτ.1 (gI σ 497 0 (i + 1)) (gI σ 497 0 (i + 2))).rc.st hτ)).2
  have k1 := ck_Cc _ _ _ _ _ _ c1
  have k2 := ck_Cc _ _ _ _ _ _ c2
  refine ⟨σ2, _, ?_, j2, fun a b => (k2 a b).trans (k1 a b)⟩
  rw [v_L_law_1253, hs, nI_clamp (show L < 2 ^ 31 by omega), nI_1, nI_2, ix_nI (show i + 1 < L by omega) (show L < 2 ^ 31 by omega), ix_nI (show i + 2 < L by omega) (show L < 2 ^ 31 by omega), c1, cI_s, k1 1 0, hs, nI_clamp (show L < 2 ^ 31 by omega), ix_nI (show i + 1 < L by omega) (show L < 2 ^ 31 by omega), ix_nI (show i + 2 < L by omega) (show L < 2 ^ 31 by omega), k1 0 (i + 1), k1 0 (i + 2), c2, cI_s, if_pos rfl]
theorem L_1286 {σ : St} {S : AZ} {i L : Nat} (h : JB σ S) (hs : gI σ 497 1 0 = nI L) (hi : i + 6 ≤ L) (hL : L ≤ 3072) : LZP σ i (Vv 372 0 1286 [some (vR 497 0), some (vR 88 0), some (vR 96 0), some (vI (nI i))] [] σ) := by
  obtain ⟨σ1, σ2, c1, c2, j2⟩ := (both h (fun τ hτ => (m_all hτ.1 (gI σ 497 0 (i + 1))).st hτ) (fun τ hτ => (t_all hτ.1 (gI σ 497 0 (i + 1))).rc.st hτ)).2
  have k1 := ck_Cc _ _ _ _ _ _ c1
  have k2 := ck_Cc _ _ _ _ _ _ c2
  refine ⟨σ2, _, ?_, j2, fun a b => (k2 a b).trans (k1 a b)⟩
  rw [v_L_law_1286, hs, nI_clamp (show L < 2 ^ 31 by omega), nI_1, ix_nI (show i + 1 < L by omega) (show L < 2 ^ 31 by omega), c1, cI_s, k1 1 0, hs, nI_clamp (show L < 2 ^ 31 by omega), ix_nI (show i + 1 < L by omega) (show L < 2 ^ 31 by omega), k1 0 (i + 1), c2, cI_s, if_pos rfl]
theorem L_1309 {σ : St} {S : AZ} {i L : Nat} (h : JB σ S) (hs : gI σ 497 1 0 = nI L) (hi : i + 6 ≤ L) (hL : L ≤ 3072) : LZP σ i (Vv 372 0 1309 [some (vR 497 0), some (vR 88 0), some (vR 96 0), some (vI (nI i))] [] σ) := by
  obtain ⟨σ1, σ2, c1, c2, j2⟩ := (both h (fun τ hτ => (m_watch hτ.1 ).st hτ) (fun τ hτ => (t_watch hτ.1 ).rc.st hτ)).2
  have k1 := ck_Cc _ _ _ _ _ _ c1
  have k2 := ck_Cc _ _ _ _ _ _ c2
  refine ⟨σ2, _, ?_, j2, fun a b => (k2 a b).trans (k1 a b)⟩
  rw [v_L_law_1309, c1, cI_s, c2, cI_s, if_pos rfl]
theorem L_1322 {σ : St} {S : AZ} {i L : Nat} (h : JB σ S) (hs : gI σ 497 1 0 = nI L) (hi : i + 6 ≤ L) (hL : L ≤ 3072) : LZP σ i (Vv 372 0 1322 [some (vR 497 0), some (vR 88 0), some (vR 96 0), some (vI (nI i))] [] σ) := by
  obtain ⟨σ1, σ2, c1, c2, j2⟩ := (both h (fun τ hτ => (m_watches hτ.1 ).st hτ) (fun τ hτ => (t_watches hτ.1 ).rc.st hτ)).2
  have k1 := ck_Cc _ _ _ _ _ _ c1
  have k2 := ck_Cc _ _ _ _ _ _ c2
  refine ⟨σ2, _, ?_, j2, fun a b => (k2 a b).trans (k1 a b)⟩
  rw [v_L_law_1322, c1, cI_s, c2, cI_s, if_pos rfl]
theorem L_1335 {σ : St} {S : AZ} {i L : Nat} (h : JB σ S) (hs : gI σ 497 1 0 = nI L) (hi : i + 6 ≤ L) (hL : L ≤ 3072) : LZP σ i (Vv 372 0 1335 [some (vR 497 0), some (vR 88 0), some (vR 96 0), some (vI (nI i))] [] σ) := by
  obtain ⟨σ1, σ2, c1, c2, j2⟩ := (both h (fun τ hτ => (m_firsts hτ.1 hτ.2.2.1 (gI σ 497 0 (i + 1)) (gI σ 497 0 (i + 2))).st hτ) (fun τ hτ => (t_firsts hτ.1 hτ.2.2.1 (gI σ 497 0 (i + 1)) (gI σ 497 0 (i + 2))).st hτ)).2
  have k1 := ck_Cc _ _ _ _ _ _ c1
  have k2 := ck_Cc _ _ _ _ _ _ c2
  refine ⟨σ2, _, ?_, j2, fun a b => (k2 a b).trans (k1 a b)⟩
  rw [v_L_law_1335, hs, nI_clamp (show L < 2 ^ 31 by omega), nI_1, nI_2, ix_nI (show i + 1 < L by omega) (show L < 2 ^ 31 by omega), ix_nI (show i + 2 < L by omega) (show L < 2 ^ 31 by omega), c1, cI_s, k1 1 0, hs, nI_clamp (show L < 2 ^ 31 by omega), ix_nI (show i + 1 < L by omega) (show L < 2 ^ 31 by omega), ix_nI (show i + 2 < L by omega) (show L < 2 ^ 31 by omega), k1 0 (i + 1), k1 0 (i + 2), c2, cI_s, if_pos rfl]
theorem L_1368 {σ : St} {S : AZ} {i L : Nat} (h : JB σ S) (hs : gI σ 497 1 0 = nI L) (hi : i + 6 ≤ L) (hL : L ≤ 3072) : LZP σ i (Vv 372 0 1368 [some (vR 497 0), some (vR 88 0), some (vR 96 0), some (vI (nI i))] [] σ) := by
  obtain ⟨σ1, σ2, c1, c2, j2⟩ := (both h (fun τ hτ => (m_ask hτ.1 hτ.2.2.1 (gI σ 497 0 (i + 1)) (gI σ 497 0 (i + 2))).st hτ) (fun τ hτ => (t_ask hτ.1 hτ.2.2.1 (gI σ 497 0 (i + 1)) (gI σ 497 0 (i + 2))).st hτ)).2
  have k1 := ck_Cc _ _ _ _ _ _ c1
  have k2 := ck_Cc _ _ _ _ _ _ c2
  refine ⟨σ2, _, ?_, j2, fun a b => (k2 a b).trans (k1 a b)⟩
  rw [v_L_law_1368, hs, nI_clamp (show L < 2 ^ 31 by omega), nI_1, nI_2, ix_nI (show i + 1 < L by omega) (show L < 2 ^ 31 by omega), ix_nI (show i + 2 < L by omega) (show L < 2 ^ 31 by omega), c1, cI_s, k1 1 0, hs, nI_clamp (show L < 2 ^ 31 by omega), ix_nI (show i + 1 < L by omega) (show L < 2 ^ 31 by omega), ix_nI (show i + 2 < L by omega) (show L < 2 ^ 31 by omega), k1 0 (i + 1), k1 0 (i + 2), c2, cI_s, if_pos rfl]
theorem L_1401 {σ : St} {S : AZ} {i L : Nat} (h : JB σ S) (hs : gI σ 497 1 0 = nI L) (hi : i + 6 ≤ L) (hL : L ≤ 3072) : LZP σ i (Vv 372 0 1401 [some (vR 497 0), some (vR 88 0), some (vR 96 0), some (vI (nI i))] [] σ) := by
  obtain ⟨σ1, σ2, c1, c2, j2⟩ := (both h (fun τ hτ => (m_leaves hτ.1 hτ.2.2.1 (gI σ 497 0 (i + 1)) (gI σ 497 0 (i + 2))).st hτ) (fun τ hτ => (t_leaves hτ.1 hτ.2.2.1 (gI σ 497 0 (i + 1)) (gI σ 497 0 (i + 2))).st hτ)).2
  have k1 := ck_Cc _ _ _ _ _ _ c1
  have k2 := ck_Cc _ _ _ _ _ _ c2
  refine ⟨σ2, _, ?_, j2, fun a b => (k2 a b).trans (k1 a b)⟩
  rw [v_L_law_1401, hs, nI_clamp (show L < 2 ^ 31 by omega), nI_1, nI_2, ix_nI (show i + 1 < L by omega) (show L < 2 ^ 31 by omega), ix_nI (show i + 2 < L by omega) (show L < 2 ^ 31 by omega), c1, cI_s, k1 1 0, hs, nI_clamp (show L < 2 ^ 31 by omega), ix_nI (show i + 1 < L by omega) (show L < 2 ^ 31 by omega), ix_nI (show i + 2 < L by omega) (show L < 2 ^ 31 by omega), k1 0 (i + 1), k1 0 (i + 2), c2, cI_s, if_pos rfl]
theorem L_1434 {σ : St} {S : AZ} {i L : Nat} (h : JB σ S) (hs : gI σ 497 1 0 = nI L) (hi : i + 6 ≤ L) (hL : L ≤ 3072) : LZP σ i (Vv 372 0 1434 [some (vR 497 0), some (vR 88 0), some (vR 96 0), some (vI (nI i))] [] σ) := by
  obtain ⟨σ1, σ2, c1, c2, j2⟩ := (both h (fun τ hτ => (m_laws hτ.1 hτ.2.2.1 (gI σ 497 0 (i + 1)) (gI σ 497 0 (i + 2))).st hτ) (fun τ hτ => (t_laws hτ.1 hτ.2.2.1 (gI σ 497 0 (i + 1)) (gI σ 497 0 (i + 2))).st hτ)).2
  have k1 := ck_Cc _ _ _ _ _ _ c1
  have k2 := ck_Cc _ _ _ _ _ _ c2
  refine ⟨σ2, _, ?_, j2, fun a b => (k2 a b).trans (k1 a b)⟩
  rw [v_L_law_1434, hs, nI_clamp (show L < 2 ^ 31 by omega), nI_1, nI_2, ix_nI (show i + 1 < L by omega) (show L < 2 ^ 31 by omega), ix_nI (show i + 2 < L by omega) (show L < 2 ^ 31 by omega), c1, cI_s, k1 1 0, hs, nI_clamp (show L < 2 ^ 31 by omega), ix_nI (show i + 1 < L by omega) (show L < 2 ^ 31 by omega), ix_nI (show i + 2 < L by omega) (show L < 2 ^ 31 by omega), k1 0 (i + 1), k1 0 (i + 2), c2, cI_s, if_pos rfl]
theorem L_1467 {σ : St} {S : AZ} {i L : Nat} (h : JB σ S) (hs : gI σ 497 1 0 = nI L) (hi : i + 6 ≤ L) (hL : L ≤ 3072) : LZP σ i (Vv 372 0 1467 [some (vR 497 0), some (vR 88 0), some (vR 96 0), some (vI (nI i))] [] σ) := by
  obtain ⟨σ1, σ2, c1, c2, j2⟩ := (both h (fun τ hτ => (m_by hτ.1 (gI σ 497 0 (i + 1))).st hτ) (fun τ hτ => (t_by hτ.1 (gI σ 497 0 (i + 1))).st hτ)).2
  have k1 := ck_Cc _ _ _ _ _ _ c1
  have k2 := ck_Cc _ _ _ _ _ _ c2
  refine ⟨σ2, _, ?_, j2, fun a b => (k2 a b).trans (k1 a b)⟩
  rw [v_L_law_1467, hs, nI_clamp (show L < 2 ^ 31 by omega), nI_1, ix_nI (show i + 1 < L by omega) (show L < 2 ^ 31 by omega), c1, cI_s, k1 1 0, hs, nI_clamp (show L < 2 ^ 31 by omega), ix_nI (show i + 1 < L by omega) (show L < 2 ^ 31 by omega), k1 0 (i + 1), c2, cI_s, if_pos rfl]
theorem L_1490 {σ : St} {S : AZ} {i L : Nat} (h : JB σ S) (hs : gI σ 497 1 0 = nI L) (hi : i + 6 ≤ L) (hL : L ≤ 3072) : LZP σ i (Vv 372 0 1490 [some (vR 497 0), some (vR 88 0), some (vR 96 0), some (vI (nI i))] [] σ) := by
  obtain ⟨σ1, σ2, c1, c2, j2⟩ := (both h (fun τ hτ => (m_law hτ.1 ).st hτ) (fun τ hτ => (t_law hτ.1 ).st hτ)).2
  have k1 := ck_Cc _ _ _ _ _ _ c1
  have k2 := ck_Cc _ _ _ _ _ _ c2
  refine ⟨σ2, _, ?_, j2, fun a b => (k2 a b).trans (k1 a b)⟩
  rw [v_L_law_1490, c1, cI_s, c2, cI_s, if_pos rfl]
theorem L_1503 {σ : St} {S : AZ} {i L : Nat} (h : JB σ S) (hs : gI σ 497 1 0 = nI L) (hi : i + 6 ≤ L) (hL : L ≤ 3072) : LZP σ i (Vv 372 0 1503 [some (vR 497 0), some (vR 88 0), some (vR 96 0), some (vI (nI i))] [] σ) := by
  obtain ⟨σ1, σ2, c1, c2, j2⟩ := (both h (fun τ hτ => (m_fell hτ.1 ).st hτ) (fun τ hτ => (t_fell hτ.1 ).st hτ)).2
  have k1 := ck_Cc _ _ _ _ _ _ c1
  have k2 := ck_Cc _ _ _ _ _ _ c2
  refine ⟨σ2, _, ?_, j2, fun a b => (k2 a b).trans (k1 a b)⟩
  rw [v_L_law_1503, c1, cI_s, c2, cI_s, if_pos rfl]
theorem L_1516 {σ : St} {S : AZ} {i L : Nat} (h : JB σ S) (hs : gI σ 497 1 0 = nI L) (hi : i + 6 ≤ L) (hL : L ≤ 3072) : LZP σ i (Vv 372 0 1516 [some (vR 497 0), some (vR 88 0), some (vR 96 0), some (vI (nI i))] [] σ) := by
  obtain ⟨σ1, σ2, c1, c2, j2⟩ := (both h (fun τ hτ => (m_rests hτ.1 (gI σ 497 0 (i + 1)) (gI σ 497 0 (i + 2))).st hτ) (fun τ hτ => (t_rests hτ.1 (gI σ 497 0 (i + 1)) (gI σ 497 0 (i + 2))).rc.st hτ)).2
  have k1 := ck_Cc _ _ _ _ _ _ c1
  have k2 := ck_Cc _ _ _ _ _ _ c2
  refine ⟨σ2, _, ?_, j2, fun a b => (k2 a b).trans (k1 a b)⟩
  rw [v_L_law_1516, hs, nI_clamp (show L < 2 ^ 31 by omega), nI_1, nI_2, ix_nI (show i + 1 < L by omega) (show L < 2 ^ 31 by omega), ix_nI (show i + 2 < L by omega) (show L < 2 ^ 31 by omega), c1, cI_s, k1 1 0, hs, nI_clamp (show L < 2 ^ 31 by omega), ix_nI (show i + 1 < L by omega) (show L < 2 ^ 31 by omega), ix_nI (show i + 2 < L by omega) (show L < 2 ^ 31 by omega), k1 0 (i + 1), k1 0 (i + 2), c2, cI_s, if_pos rfl]
theorem L_1549 {σ : St} {S : AZ} {i L : Nat} (h : JB σ S) (hs : gI σ 497 1 0 = nI L) (hi : i + 6 ≤ L) (hL : L ≤ 3072) : LZP σ i (Vv 372 0 1549 [some (vR 497 0), some (vR 88 0), some (vR 96 0), some (vI (nI i))] [] σ) := by
  obtain ⟨σ1, σ2, c1, c2, j2⟩ := (both h (fun τ hτ => (m_gets hτ.1 (gI σ 497 0 (i + 1)) (gI σ 497 0 (i + 2)) (gI σ 497 0 (i + 3)) (gI σ 497 0 (i + 4))).st hτ) (fun τ hτ => (t_gets hτ.1 (gI σ 497 0 (i + 1)) (gI σ 497 0 (i + 2)) (gI σ 497 0 (i + 3)) (gI σ 497 0 (i + 4))).rc.st hτ)).2
  have k1 := ck_Cc _ _ _ _ _ _ c1
  have k2 := ck_Cc _ _ _ _ _ _ c2
  refine ⟨σ2, _, ?_, j2, fun a b => (k2 a b).trans (k1 a b)⟩
  rw [v_L_law_1549, hs, nI_clamp (show L < 2 ^ 31 by omega), nI_1, nI_2, nI_3, nI_4, ix_nI (show i + 1 < L by omega) (show L < 2 ^ 31 by omega), ix_nI (show i + 2 < L by omega) (show L < 2 ^ 31 by omega), ix_nI (show i + 3 < L by omega) (show L < 2 ^ 31 by omega), ix_nI (show i + 4 < L by omega) (show L < 2 ^ 31 by omega), c1, cI_s, k1 1 0, hs, nI_clamp (show L < 2 ^ 31 by omega), ix_nI (show i + 1 < L by omega) (show L < 2 ^ 31 by omega), ix_nI (show i + 2 < L by omega) (show L < 2 ^ 31 by omega), ix_nI (show i + 3 < L by omega) (show L < 2 ^ 31 by omega), ix_nI (show i + 4 < L by omega) (show L < 2 ^ 31 by omega), k1 0 (i + 1), k1 0 (i + 2), k1 0 (i + 3), k1 0 (i + 4), c2, cI_s, if_pos rfl]
theorem L_1602 {σ : St} {S : AZ} {i L : Nat} (h : JB σ S) (hs : gI σ 497 1 0 = nI L) (hi : i + 6 ≤ L) (hL : L ≤ 3072) : LZP σ i (Vv 372 0 1602 [some (vR 497 0), some (vR 88 0), some (vR 96 0), some (vI (nI i))] [] σ) := by
  obtain ⟨σ1, σ2, c1, c2, j2⟩ := (both h (fun τ hτ => (m_chance hτ.1 (gI σ 497 0 (i + 1)) (gI σ 497 0 (i + 2)) (gI σ 497 0 (i + 3)) (gI σ 497 0 (i + 4))).st hτ) (fun τ hτ => (t_chance hτ.1 (gI σ 497 0 (i + 1)) (gI σ 497 0 (i + 2)) (gI σ 497 0 (i + 3)) (gI σ 497 0 (i + 4))).st hτ)).2
  have k1 := ck_Cc _ _ _ _ _ _ c1
  have k2 := ck_Cc _ _ _ _ _ _ c2
  refine ⟨σ2, _, ?_, j2, fun a b => (k2 a b).trans (k1 a b)⟩
  rw [v_L_law_1602, hs, nI_clamp (show L < 2 ^ 31 by omega), nI_1, nI_2, nI_3, nI_4, ix_nI (show i + 1 < L by omega) (show L < 2 ^ 31 by omega), ix_nI (show i + 2 < L by omega) (show L < 2 ^ 31 by omega), ix_nI (show i + 3 < L by omega) (show L < 2 ^ 31 by omega), ix_nI (show i + 4 < L by omega) (show L < 2 ^ 31 by omega), c1, cI_s, k1 1 0, hs, nI_clamp (show L < 2 ^ 31 by omega), ix_nI (show i + 1 < L by omega) (show L < 2 ^ 31 by omega), ix_nI (show i + 2 < L by omega) (show L < 2 ^ 31 by omega), ix_nI (show i + 3 < L by omega) (show L < 2 ^ 31 by omega), ix_nI (show i + 4 < L by omega) (show L < 2 ^ 31 by omega), k1 0 (i + 1), k1 0 (i + 2), k1 0 (i + 3), k1 0 (i + 4), c2, cI_s, if_pos rfl]
theorem L_1655 {σ : St} {S : AZ} {i L : Nat} (h : JB σ S) (hs : gI σ 497 1 0 = nI L) (hi : i + 6 ≤ L) (hL : L ≤ 3072) : LZP σ i (Vv 372 0 1655 [some (vR 497 0), some (vR 88 0), some (vR 96 0), some (vI (nI i))] [] σ) := by
  obtain ⟨σ1, σ2, c1, c2, j2⟩ := (both h (fun τ hτ => (m_mean hτ.1 (gI σ 497 0 (i + 1)) (gI σ 497 0 (i + 2)) (gI σ 497 0 (i + 3))).st hτ) (fun τ hτ => (t_mean hτ.1 (gI σ 497 0 (i + 1)) (gI σ 497 0 (i + 2)) (gI σ 497 0 (i + 3))).st hτ)).2
  have k1 := ck_Cc _ _ _ _ _ _ c1
  have k2 := ck_Cc _ _ _ _ _ _ c2
  refine ⟨σ2, _, ?_, j2, fun a b => (k2 a b).trans (k1 a b)⟩
  rw [v_L_law_1655, hs, nI_clamp (show L < 2 ^ 31 by omega), nI_1, nI_2, nI_3, ix_nI (show i + 1 < L by omega) (show L < 2 ^ 31 by omega), ix_nI (show i + 2 < L by omega) (show L < 2 ^ 31 by omega), ix_nI (show i + 3 < L by omega) (show L < 2 ^ 31 by omega), c1, cL_s, k1 1 0, hs, nI_clamp (show L < 2 ^ 31 by omega), ix_nI (show i + 1 < L by omega) (show L < 2 ^ 31 by omega), ix_nI (show i + 2 < L by omega) (show L < 2 ^ 31 by omega), ix_nI (show i + 3 < L by omega) (show L < 2 ^ 31 by omega), k1 0 (i + 1), k1 0 (i + 2), k1 0 (i + 3), c2, cL_s, if_pos (lg_self _)]
theorem L_1699 {σ : St} {S : AZ} {i L : Nat} (h : JB σ S) (hs : gI σ 497 1 0 = nI L) (hi : i + 6 ≤ L) (hL : L ≤ 3072) : LZP σ i (Vv 372 0 1699 [some (vR 497 0), some (vR 88 0), some (vR 96 0), some (vI (nI i))] [] σ) := by
  obtain ⟨σ1, σ2, c1, c2, j2⟩ := (both h (fun τ hτ => n_swap hτ (gI σ 497 0 (i + 1)) (gI σ 497 0 (i + 2)) (gI σ 497 0 (i + 3))) (fun τ hτ => u_swap hτ (gI σ 497 0 (i + 1)) (gI σ 497 0 (i + 2)) (gI σ 497 0 (i + 3)))).2
  have k1 := ck_Cc _ _ _ _ _ _ c1
  have k2 := ck_Cc _ _ _ _ _ _ c2
  refine ⟨σ2, _, ?_, j2, fun a b => (k2 a b).trans (k1 a b)⟩
  rw [v_L_law_1699, hs, nI_clamp (show L < 2 ^ 31 by omega), nI_1, nI_2, nI_3, ix_nI (show i + 1 < L by omega) (show L < 2 ^ 31 by omega), ix_nI (show i + 2 < L by omega) (show L < 2 ^ 31 by omega), ix_nI (show i + 3 < L by omega) (show L < 2 ^ 31 by omega), c1, cI_s, k1 1 0, hs, nI_clamp (show L < 2 ^ 31 by omega), ix_nI (show i + 1 < L by omega) (show L < 2 ^ 31 by omega), ix_nI (show i + 2 < L by omega) (show L < 2 ^ 31 by omega), ix_nI (show i + 3 < L by omega) (show L < 2 ^ 31 by omega), k1 0 (i + 1), k1 0 (i + 2), k1 0 (i + 3), c2, cI_s, if_pos rfl]
theorem L_1742 {σ : St} {S : AZ} {i L : Nat} (h : JB σ S) (hs : gI σ 497 1 0 = nI L) (hi : i + 6 ≤ L) (hL : L ≤ 3072) : LZP σ i (Vv 372 0 1742 [some (vR 497 0), some (vR 88 0), some (vR 96 0), some (vI (nI i))] [] σ) := by
  obtain ⟨σ1, σ2, c1, c2, j2⟩ := (both h (fun τ hτ => n_clear hτ (gI σ 497 0 (i + 1))) (fun τ hτ => u_clear hτ (gI σ 497 0 (i + 1)))).2
  have k1 := ck_Cc _ _ _ _ _ _ c1
  have k2 := ck_Cc _ _ _ _ _ _ c2
  refine ⟨σ2, _, ?_, j2, fun a b => (k2 a b).trans (k1 a b)⟩
  rw [v_L_law_1742, hs, nI_clamp (show L < 2 ^ 31 by omega), nI_1, ix_nI (show i + 1 < L by omega) (show L < 2 ^ 31 by omega), c1, cI_s, k1 1 0, hs, nI_clamp (show L < 2 ^ 31 by omega), ix_nI (show i + 1 < L by omega) (show L < 2 ^ 31 by omega), k1 0 (i + 1), c2, cI_s, if_pos rfl]
theorem L_1765 {σ : St} {S : AZ} {i L : Nat} (h : JB σ S) (hs : gI σ 497 1 0 = nI L) (hi : i + 6 ≤ L) (hL : L ≤ 3072) : LZP σ i (Vv 372 0 1765 [some (vR 497 0), some (vR 88 0), some (vR 96 0), some (vI (nI i))] [] σ) := by
  obtain ⟨σ1, σ2, c1, c2, j2⟩ := (both h (fun τ hτ => n_undo hτ ) (fun τ hτ => u_undo hτ )).2
  have k1 := ck_Cc _ _ _ _ _ _ c1
  have k2 := ck_Cc _ _ _ _ _ _ c2
  refine ⟨σ2, _, ?_, j2, fun a b => (k2 a b).trans (k1 a b)⟩
  rw [v_L_law_1765, c1, cI_s, c2, cI_s, if_pos rfl]
theorem L_1778 {σ : St} {S : AZ} {i L : Nat} (h : JB σ S) (hs : gI σ 497 1 0 = nI L) (hi : i + 6 ≤ L) (hL : L ≤ 3072) : LZP σ i (Vv 372 0 1778 [some (vR 497 0), some (vR 88 0), some (vR 96 0), some (vI (nI i))] [] σ) := by
  obtain ⟨σ1, σ2, c1, c2, j2⟩ := (both h (fun τ hτ => n_anew hτ ) (fun τ hτ => u_anew hτ )).2
  have k1 := ck_Cc _ _ _ _ _ _ c1
  have k2 := ck_Cc _ _ _ _ _ _ c2
  refine ⟨σ2, _, ?_, j2, fun a b => (k2 a b).trans (k1 a b)⟩
  rw [v_L_law_1778, c1, cI_s, c2, cI_s, if_pos rfl]
theorem L_1791 {σ : St} {S : AZ} {i L : Nat} (h : JB σ S) (hs : gI σ 497 1 0 = nI L) (hi : i + 6 ≤ L) (hL : L ≤ 3072) : LZP σ i (Vv 372 0 1791 [some (vR 497 0), some (vR 88 0), some (vR 96 0), some (vI (nI i))] [] σ) := by
  obtain ⟨σ1, σ2, c1, c2, j2⟩ := (both h (fun τ hτ => (m_drawn hτ.1 (gI σ 497 0 (i + 1)) (gI σ 497 0 (i + 2))).st hτ) (fun τ hτ => (t_drawn hτ.1 (gI σ 497 0 (i + 1)) (gI σ 497 0 (i + 2))).st hτ)).2
  have k1 := ck_Cc _ _ _ _ _ _ c1
  have k2 := ck_Cc _ _ _ _ _ _ c2
  refine ⟨σ2, _, ?_, j2, fun a b => (k2 a b).trans (k1 a b)⟩
  rw [v_L_law_1791, hs, nI_clamp (show L < 2 ^ 31 by omega), nI_1, nI_2, ix_nI (show i + 1 < L by omega) (show L < 2 ^ 31 by omega), ix_nI (show i + 2 < L by omega) (show L < 2 ^ 31 by omega), c1, cI_s, k1 1 0, hs, nI_clamp (show L < 2 ^ 31 by omega), ix_nI (show i + 1 < L by omega) (show L < 2 ^ 31 by omega), ix_nI (show i + 2 < L by omega) (show L < 2 ^ 31 by omega), k1 0 (i + 1), k1 0 (i + 2), c2, cI_s, if_pos rfl]
theorem L_1824 {σ : St} {S : AZ} {i L : Nat} (h : JB σ S) (hs : gI σ 497 1 0 = nI L) (hi : i + 6 ≤ L) (hL : L ≤ 3072) : LZP σ i (Vv 372 0 1824 [some (vR 497 0), some (vR 88 0), some (vR 96 0), some (vI (nI i))] [] σ) := by
  obtain ⟨σ1, σ2, c1, c2, j2⟩ := (both h (fun τ hτ => (m_luck hτ.1 (gI σ 497 0 (i + 1)) (gI σ 497 0 (i + 2)) (gI σ 497 0 (i + 3))).st hτ) (fun τ hτ => (t_luck hτ.1 (gI σ 497 0 (i + 1)) (gI σ 497 0 (i + 2)) (gI σ 497 0 (i + 3))).st hτ)).2
  have k1 := ck_Cc _ _ _ _ _ _ c1
  have k2 := ck_Cc _ _ _ _ _ _ c2
  refine ⟨σ2, _, ?_, j2, fun a b => (k2 a b).trans (k1 a b)⟩
  rw [v_L_law_1824, hs, nI_clamp (show L < 2 ^ 31 by omega), nI_1, nI_2, nI_3, ix_nI (show i + 1 < L by omega) (show L < 2 ^ 31 by omega), ix_nI (show i + 2 < L by omega) (show L < 2 ^ 31 by omega), ix_nI (show i + 3 < L by omega) (show L < 2 ^ 31 by omega), c1, cI_s, k1 1 0, hs, nI_clamp (show L < 2 ^ 31 by omega), ix_nI (show i + 1 < L by omega) (show L < 2 ^ 31 by omega), ix_nI (show i + 2 < L by omega) (show L < 2 ^ 31 by omega), ix_nI (show i + 3 < L by omega) (show L < 2 ^ 31 by omega), k1 0 (i + 1), k1 0 (i + 2), k1 0 (i + 3), c2, cI_s, if_pos rfl]
theorem L_1867 {σ : St} {S : AZ} {i L : Nat} (h : JB σ S) (hs : gI σ 497 1 0 = nI L) (hi : i + 6 ≤ L) (hL : L ≤ 3072) : LZP σ i (Vv 372 0 1867 [some (vR 497 0), some (vR 88 0), some (vR 96 0), some (vI (nI i))] [] σ) := by
  obtain ⟨σ1, σ2, c1, c2, j2⟩ := (both h (fun τ hτ => n_rate hτ (gI σ 497 0 (i + 1)) (gI σ 497 0 (i + 2))) (fun τ hτ => u_rate hτ (gI σ 497 0 (i + 1)) (gI σ 497 0 (i + 2)))).2
  have k1 := ck_Cc _ _ _ _ _ _ c1
  have k2 := ck_Cc _ _ _ _ _ _ c2
  refine ⟨σ2, _, ?_, j2, fun a b => (k2 a b).trans (k1 a b)⟩
  rw [v_L_law_1867, hs, nI_clamp (show L < 2 ^ 31 by omega), nI_1, nI_2, ix_nI (show i + 1 < L by omega) (show L < 2 ^ 31 by omega), ix_nI (show i + 2 < L by omega) (show L < 2 ^ 31 by omega), c1, cI_s, k1 1 0, hs, nI_clamp (show L < 2 ^ 31 by omega), ix_nI (show i + 1 < L by omega) (show L < 2 ^ 31 by omega), ix_nI (show i + 2 < L by omega) (show L < 2 ^ 31 by omega), k1 0 (i + 1), k1 0 (i + 2), c2, cI_s, if_pos rfl]
theorem L_1900 {σ : St} {S : AZ} {i L : Nat} (h : JB σ S) (hs : gI σ 497 1 0 = nI L) (hi : i + 6 ≤ L) (hL : L ≤ 3072) : LZP σ i (Vv 372 0 1900 [some (vR 497 0), some (vR 88 0), some (vR 96 0), some (vI (nI i))] [] σ) := by
  obtain ⟨σ1, σ2, c1, c2, j2⟩ := (both h (fun τ hτ => n_count hτ (gI σ 497 0 (i + 1))) (fun τ hτ => u_count hτ (gI σ 497 0 (i + 1)))).2
  have k1 := ck_Cc _ _ _ _ _ _ c1
  have k2 := ck_Cc _ _ _ _ _ _ c2
  refine ⟨σ2, _, ?_, j2, fun a b => (k2 a b).trans (k1 a b)⟩
  rw [v_L_law_1900, hs, nI_clamp (show L < 2 ^ 31 by omega), nI_1, ix_nI (show i + 1 < L by omega) (show L < 2 ^ 31 by omega), c1, cI_s, k1 1 0, hs, nI_clamp (show L < 2 ^ 31 by omega), ix_nI (show i + 1 < L by omega) (show L < 2 ^ 31 by omega), k1 0 (i + 1), c2, cI_s, if_pos rfl]
theorem L_1923 {σ : St} {S : AZ} {i L : Nat} (h : JB σ S) (hs : gI σ 497 1 0 = nI L) (hi : i + 6 ≤ L) (hL : L ≤ 3072) : LZP σ i (Vv 372 0 1923 [some (vR 497 0), some (vR 88 0), some (vR 96 0), some (vI (nI i))] [] σ) := by
  obtain ⟨σ1, σ2, c1, c2, j2⟩ := (both h (fun τ hτ => n_image hτ (gI σ 497 0 (i + 1))) (fun τ hτ => u_image hτ (gI σ 497 0 (i + 1)))).2
  have k1 := ck_Cc _ _ _ _ _ _ c1
  have k2 := ck_Cc _ _ _ _ _ _ c2
  refine ⟨σ2, _, ?_, j2, fun a b => (k2 a b).trans (k1 a b)⟩
  rw [v_L_law_1923, hs, nI_clamp (show L < 2 ^ 31 by omega), nI_1, ix_nI (show i + 1 < L by omega) (show L < 2 ^ 31 by omega), c1, cI_s, k1 1 0, hs, nI_clamp (show L < 2 ^ 31 by omega), ix_nI (show i + 1 < L by omega) (show L < 2 ^ 31 by omega), k1 0 (i + 1), c2, cI_s, if_pos rfl]
theorem L_1946 {σ : St} {S : AZ} {i L : Nat} (h : JB σ S) (hs : gI σ 497 1 0 = nI L) (hi : i + 6 ≤ L) (hL : L ≤ 3072) : LZP σ i (Vv 372 0 1946 [some (vR 497 0), some (vR 88 0), some (vR 96 0), some (vI (nI i))] [] σ) := by
  obtain ⟨σ1, σ2, c1, c2, j2⟩ := (both h (fun τ hτ => n_back hτ (gI σ 497 0 (i + 1))) (fun τ hτ => u_back hτ (gI σ 497 0 (i + 1)))).2
  have k1 := ck_Cc _ _ _ _ _ _ c1
  have k2 := ck_Cc _ _ _ _ _ _ c2
  refine ⟨σ2, _, ?_, j2, fun a b => (k2 a b).trans (k1 a b)⟩
  rw [v_L_law_1946, hs, nI_clamp (show L < 2 ^ 31 by omega), nI_1, ix_nI (show i + 1 < L by omega) (show L < 2 ^ 31 by omega), c1, cI_s, k1 1 0, hs, nI_clamp (show L < 2 ^ 31 by omega), ix_nI (show i + 1 < L by omega) (show L < 2 ^ 31 by omega), k1 0 (i + 1), c2, cI_s, if_pos rfl]
theorem L_1969 {σ : St} {S : AZ} {i L : Nat} (h : JB σ S) (hs : gI σ 497 1 0 = nI L) (hi : i + 6 ≤ L) (hL : L ≤ 3072) : LZP σ i (Vv 372 0 1969 [some (vR 497 0), some (vR 88 0), some (vR 96 0), some (vI (nI i))] [] σ) := by
  obtain ⟨σ1, σ2, c1, c2, j2⟩ := (both h (fun τ hτ => n_row hτ (gI σ 497 0 (i + 1)) (gI σ 497 0 (i + 2)) (gI σ 497 0 (i + 3))) (fun τ hτ => u_row hτ (gI σ 497 0 (i + 1)) (gI σ 497 0 (i + 2)) (gI σ 497 0 (i + 3)))).2
  have k1 := ck_Cc _ _ _ _ _ _ c1
  have k2 := ck_Cc _ _ _ _ _ _ c2
  refine ⟨σ2, _, ?_, j2, fun a b => (k2 a b).trans (k1 a b)⟩
  rw [v_L_law_1969, hs, nI_clamp (show L < 2 ^ 31 by omega), nI_1, nI_2, nI_3, ix_nI (show i + 1 < L by omega) (show L < 2 ^ 31 by omega), ix_nI (show i + 2 < L by omega) (show L < 2 ^ 31 by omega), ix_nI (show i + 3 < L by omega) (show L < 2 ^ 31 by omega), c1, cI_s, k1 1 0, hs, nI_clamp (show L < 2 ^ 31 by omega), ix_nI (show i + 1 < L by omega) (show L < 2 ^ 31 by omega), ix_nI (show i + 2 < L by omega) (show L < 2 ^ 31 by omega), ix_nI (show i + 3 < L by omega) (show L < 2 ^ 31 by omega), k1 0 (i + 1), k1 0 (i + 2), k1 0 (i + 3), c2, cI_s, if_pos rfl]
theorem L_2012 {σ : St} {S : AZ} {i L : Nat} (h : JB σ S) (hs : gI σ 497 1 0 = nI L) (hi : i + 6 ≤ L) (hL : L ≤ 3072) : LZP σ i (Vv 372 0 2012 [some (vR 497 0), some (vR 88 0), some (vR 96 0), some (vI (nI i))] [] σ) := by
  obtain ⟨σ1, σ2, c1, c2, j2⟩ := (both h (fun τ hτ => n_write hτ (gI σ 497 0 (i + 1)) (gI σ 497 0 (i + 2)) ((Int32.toInt64 (gI σ 497 0 (i + 3)) <<< (Int32.toInt64 (32 : Int32) &&& 63)) ||| (Int32.toInt64 (gI σ 497 0 (i + 4)) &&& (4294967295 : Int64)))) (fun τ hτ => u_write hτ (gI σ 497 0 (i + 1)) (gI σ 497 0 (i + 2)) ((Int32.toInt64 (gI σ 497 0 (i + 3)) <<< (Int32.toInt64 (32 : Int32) &&& 63)) ||| (Int32.toInt64 (gI σ 497 0 (i + 4)) &&& (4294967295 : Int64))))).2
  have k1 := ck_Cc _ _ _ _ _ _ c1
  have k2 := ck_Cc _ _ _ _ _ _ c2
  refine ⟨σ2, _, ?_, j2, fun a b => (k2 a b).trans (k1 a b)⟩
  rw [v_L_law_2012, hs, nI_clamp (show L < 2 ^ 31 by omega), nI_1, nI_2, nI_3, nI_4, ix_nI (show i + 1 < L by omega) (show L < 2 ^ 31 by omega), ix_nI (show i + 2 < L by omega) (show L < 2 ^ 31 by omega), ix_nI (show i + 3 < L by omega) (show L < 2 ^ 31 by omega), ix_nI (show i + 4 < L by omega) (show L < 2 ^ 31 by omega), c1, cI_s, k1 1 0, hs, nI_clamp (show L < 2 ^ 31 by omega), ix_nI (show i + 1 < L by omega) (show L < 2 ^ 31 by omega), ix_nI (show i + 2 < L by omega) (show L < 2 ^ 31 by omega), ix_nI (show i + 3 < L by omega) (show L < 2 ^ 31 by omega), ix_nI (show i + 4 < L by omega) (show L < 2 ^ 31 by omega), k1 0 (i + 1), k1 0 (i + 2), k1 0 (i + 3), k1 0 (i + 4), c2, cI_s, if_pos rfl]
theorem L_2085 {σ : St} {S : AZ} {i L : Nat} (h : JB σ S) (hs : gI σ 497 1 0 = nI L) (hi : i + 6 ≤ L) (hL : L ≤ 3072) : LZP σ i (Vv 372 0 2085 [some (vR 497 0), some (vR 88 0), some (vR 96 0), some (vI (nI i))] [] σ) := by
  obtain ⟨σ1, σ2, c1, c2, j2⟩ := (both h (fun τ hτ => n_paste hτ (gI σ 497 0 (i + 1)) (gI σ 497 0 (i + 2)) (gI σ 497 0 (i + 3)) (gI σ 497 0 (i + 4)) (gI σ 497 0 (i + 5))) (fun τ hτ => u_paste hτ (gI σ 497 0 (i + 1)) (gI σ 497 0 (i + 2)) (gI σ 497 0 (i + 3)) (gI σ 497 0 (i + 4)) (gI σ 497 0 (i + 5)))).2
  have k1 := ck_Cc _ _ _ _ _ _ c1
  have k2 := ck_Cc _ _ _ _ _ _ c2
  refine ⟨σ2, _, ?_, j2, fun a b => (k2 a b).trans (k1 a b)⟩
  rw [v_L_law_2085, hs, nI_clamp (show L < 2 ^ 31 by omega), nI_1, nI_2, nI_3, nI_4, nI_5, ix_nI (show i + 1 < L by omega) (show L < 2 ^ 31 by omega), ix_nI (show i + 2 < L by omega) (show L < 2 ^ 31 by omega), ix_nI (show i + 3 < L by omega) (show L < 2 ^ 31 by omega), ix_nI (show i + 4 < L by omega) (show L < 2 ^ 31 by omega), ix_nI (show i + 5 < L by omega) (show L < 2 ^ 31 by omega), c1, cI_s, k1 1 0, hs, nI_clamp (show L < 2 ^ 31 by omega), ix_nI (show i + 1 < L by omega) (show L < 2 ^ 31 by omega), ix_nI (show i + 2 < L by omega) (show L < 2 ^ 31 by omega), ix_nI (show i + 3 < L by omega) (show L < 2 ^ 31 by omega), ix_nI (show i + 4 < L by omega) (show L < 2 ^ 31 by omega), ix_nI (show i + 5 < L by omega) (show L < 2 ^ 31 by omega), k1 0 (i + 1), k1 0 (i + 2), k1 0 (i + 3), k1 0 (i + 4), k1 0 (i + 5), c2, cI_s, if_pos rfl]
