/-! fields and arrays -/
def uwok (w : Cond) : Bool := goodWord w && (List.range 11).any (fun j => (tbj j).any (fun x => decide (x = w)))
theorem uw_all : (List.range 13).all (fun k => (u_ws (Tc k).1 (Tc k).2.1 (Tc k).2.2).all uwok) = true := by decide +kernel
theorem uw_in {k : Nat} (hk : k < 13) : ∀ w ∈ u_ws (Tc k).1 (Tc k).2.1 (Tc k).2.2, w ∈ WS := by
  intro w hw
  have h1 := List.all_eq_true.mp (List.all_eq_true.mp uw_all k (List.mem_range.mpr hk)) w hw
  unfold uwok at h1
  rw [Bool.and_eq_true] at h1
  obtain ⟨j, -, hj⟩ := List.any_eq_true.mp h1.2
  obtain ⟨x, hx, hd⟩ := List.any_eq_true.mp hj
  have hd := of_decide_eq_true hd
  subst hd
  exact WS_in (tbj_in hx) h1.1
theorem Tc_at {k : Nat} (hk : k < 13) : vwCl[k]? = some ((Tc k).1, (Tc k).2.1, (Tc k).2.2) := by
  match k, hk with
  | 0, _ => rfl
  | 1, _ => rfl
  | 2, _ => rfl
  | 3, _ => rfl
  | 4, _ => rfl
  | 5, _ => rfl
  | 6, _ => rfl
  | 7, _ => rfl
  | 8, _ => rfl
  | 9, _ => rfl
  | 10, _ => rfl
  | 11, _ => rfl
  | 12, _ => rfl
  | n + 13, h => omega
theorem Tc_ty {k : Nat} (hk : k < 13) : ∃ ty0 : Nat → FieldType, (∀ a, a < (Tc k).2.2 → parseFieldDescriptor ((Tc k).2.1 a).2.2.1 = some (ty0 a)) ∧ ∀ a, a < (Tc k).2.2 → ∀ b, b < (Tc k).2.2 → a ≠ b → ((Tc k).2.1 a).2.1 ≠ ((Tc k).2.1 b).2.1 := by
  match k, hk with
  | 0, _ => exact ⟨tyX0, tyX0_ok, nmX0⟩
  | 1, _ => exact ⟨tyX1, tyX1_ok, nmX1⟩
  | 2, _ => exact ⟨tyX2, tyX2_ok, nmX2⟩
  | 3, _ => exact ⟨tyX3, tyX3_ok, nmX3⟩
  | 4, _ => exact ⟨tyX4, tyX4_ok, nmX4⟩
  | 5, _ => exact ⟨tyX5, tyX5_ok, nmX5⟩
  | 6, _ => exact ⟨tyX6, tyX6_ok, nmX6⟩
  | 7, _ => exact ⟨tyX7, tyX7_ok, nmX7⟩
  | 8, _ => exact ⟨tyX8, tyX8_ok, nmX8⟩
  | 9, _ => exact ⟨tyX9, tyX9_ok, nmX9⟩
  | 10, _ => exact ⟨tyX10, tyX10_ok, nmX10⟩
  | 11, _ => exact ⟨tyX11, tyX11_ok, nmX11⟩
  | 12, _ => exact ⟨tyX12, tyX12_ok, nmX12⟩
  | n + 13, h => omega
def fkok (c k : Nat) : Bool := match (fkd c k).1 with
  | 0 => decide (parseFieldDescriptor ((Tc c).2.1 k).2.2.1 = some .int ∧ ((Tc c).2.1 k).2.2.2 = false)
  | 1 => decide (parseFieldDescriptor ((Tc c).2.1 k).2.2.1 = some .long ∧ ((Tc c).2.1 k).2.2.2 = false)
  | 3 => decide (parseFieldDescriptor ((Tc c).2.1 k).2.2.1 = some .boolean ∧ ((Tc c).2.1 k).2.2.2 = false)
  | _ => true
theorem fk_all : (List.range 13).all (fun c => (List.range (Tc c).2.2).all (fkok c)) = true := by decide +kernel
theorem fk_at {c k : Nat} (hc : c < 13) (hk : k < (Tc c).2.2) : fkok c k = true := List.all_eq_true.mp (List.all_eq_true.mp fk_all c (List.mem_range.mpr hc)) k (List.mem_range.mpr hk)
theorem fl_at {m idx c k : Nat} (h : fls.any (fun e => Nat.beq e.1 (mcl m) && Nat.beq e.2.1 idx && Nat.beq e.2.2.1 c && Nat.beq e.2.2.2.1 k) = true) : c < 13 ∧ k < (Tc c).2.2 ∧ Cond.fieldLink (cnm (mcl m)) idx ((Tc c).2.1 k).1 ((Tc c).2.1 k).2.1 ((Tc c).2.1 k).2.2.1 ∈ WS := by
  obtain ⟨q, hq, hd⟩ := List.any_eq_true.mp h
  simp only [Bool.and_eq_true] at hd
  obtain ⟨⟨⟨h1, h2⟩, h3⟩, h4⟩ := hd
  have h1 := Nat.eq_of_beq_eq_true h1
  have h2 := Nat.eq_of_beq_eq_true h2
  have h3 := Nat.eq_of_beq_eq_true h3
  have h4 := Nat.eq_of_beq_eq_true h4
  have ho := List.all_eq_true.mp okf_all q hq
  unfold okf at ho
  rw [Bool.and_eq_true, h1, h2, h3, h4] at ho
  have ho2 := of_decide_eq_true ho.2
  exact ⟨ho2.2, ho2.1, WS_in (inT_mem ho.1) rfl⟩
theorem tag_obj {c : Nat} (hc : c < 13) : lk (8 * c) = 0 ∧ 8 * c / 8 = c ∧ 8 * c ≠ 497 ∧ 8 * c ≠ 494 := by
  refine ⟨by unfold lk; omega, by omega, by omega, by omega⟩
