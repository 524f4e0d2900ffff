/-! SHARES: all orders come to equal parts -/
theorem sm_add (f g : Nat → Nat) : ∀ n, sm (fun k => f k + g k) n = sm f n + sm g n
  | 0 => rfl
  | n + 1 => by
    show sm (fun k => f k + g k) n + (f n + g n) = sm f n + f n + (sm g n + g n)
    rw [sm_add f g n]
    omega
theorem sm_mul (c : Nat) (f : Nat → Nat) : ∀ n, sm (fun k => c * f k) n = c * sm f n
  | 0 => rfl
  | n + 1 => by
    show sm (fun k => c * f k) n + c * f n = c * (sm f n + f n)
    rw [sm_mul c f n, Nat.mul_add]
theorem sm_zero : ∀ n, sm (fun _ => 0) n = 0
  | 0 => rfl
  | n + 1 => by
    show sm (fun _ => 0) n + 0 = 0
    rw [sm_zero n]
theorem sm_swap (f : Nat → Nat → Nat) (k : Nat) : ∀ n, sm (fun x => sm (fun m => f x m) k) n = sm (fun m => sm (fun x => f x m) n) k
  | 0 => (sm_zero k).symm
  | n + 1 => by
    show sm (fun x => sm (fun m => f x m) k) n + sm (fun m => f n m) k = sm (fun m => sm (fun x => f x m) n + f n m) k
    rw [sm_swap f k n, sm_add]
/-- how the orders fall out, for one mark that the places of M see -/
def shC (n p M : Nat) : Nat := sm (fun x => cond (Nat.testBit x p) 0 (cond (Nat.beq (x &&& M) 0) (fc (pc x) * fc (n - pc x - 1)) 0)) (2 ^ n)
def shK (n : Nat) : Bool := (List.range n).all (fun p => (List.range (2 ^ n)).all (fun M => !(Nat.testBit M p) || Nat.beq (shC n p M * 60) (fc n * (60 / pc M))))
theorem shK_d : ∀ n, n < 7 → shK n = true := by decide +kernel
theorem shC_e {n p M : Nat} (hn : n ≤ 6) (hp : p < n) (hM : M < 2 ^ n) (h : Nat.testBit M p = true) : shC n p M * 60 = fc n * (60 / pc M) := by
  have := List.all_eq_true.mp (List.all_eq_true.mp (shK_d n (by omega)) p (List.mem_range.mpr hp)) M (List.mem_range.mpr hM)
  rw [h] at this
  exact Nat.eq_of_beq_eq_true this
/-- the class's sixtieths -/
def sh60 (R : RF) (s : Nat → Nat → Bool) (p : Nat) : Nat := sm (fun m => cond (s p m) (mw R m * (60 / pc (bn (fun q => s q m) (nP R)))) 0) (nM R)
theorem aS_or {R : RF} {s : Nat → Nat → Bool} {x p m : Nat} (hp : p < nP R) : aS R s (Nat.testBit (x ||| 2 ^ p)) m = (aS R s (Nat.testBit x) m || s p m) := by
  cases hq : aS R s (Nat.testBit x) m
  · cases hs : s p m
    · refine ex_no.mpr (fun k hk => ?_)
      have h1 := ex_no.mp hq k hk
      rw [Nat.testBit_or, Nat.testBit_two_pow]
      by_cases hkp : p = k
      · subst hkp
        rw [hs, Bool.and_false]
      · rw [decide_eq_false hkp, Bool.or_false]
        exact h1
    · exact ex_iff.mpr ⟨p, hp, by rw [Nat.testBit_or, Nat.testBit_two_pow, decide_eq_true rfl, hs, Bool.or_true]; rfl⟩
  · exact aS_mono hq
theorem aS_and {R : RF} {s : Nat → Nat → Bool} {x m : Nat} (hx : x < 2 ^ nP R) : (!aS R s (Nat.testBit x) m) = Nat.beq (x &&& bn (fun q => s q m) (nP R)) 0 := by
  have e : x &&& bn (fun q => s q m) (nP R) = bn (fun q => Nat.testBit x q && s q m) (nP R) := by
    have hxx := bn_of hx
    apply tb_ext
    intro k
    rw [Nat.testBit_and, bn_tb, bn_tb]
    cases decide (k < nP R) <;> cases Nat.testBit x k <;> rfl
  rw [e]
  cases hq : aS R s (Nat.testBit x) m
  · rw [bn_0.mpr (ex_no.mp hq)]
    rfl
  · cases hz : Nat.beq (bn (fun q => Nat.testBit x q && s q m) (nP R)) 0
    · rfl
    · have := bn_0.mp (Nat.eq_of_beq_eq_true hz)
      have : ex (fun q => Nat.testBit x q && s q m) (nP R) = false := ex_no.mpr this
      have hq : ex (fun q => Nat.testBit x q && s q m) (nP R) = true := hq
      rw [this] at hq
      cases hq
theorem shr_60 {R : RF} (h : WF R) (s : Nat → Nat → Bool) {p : Nat} (hp : p < nP R) : shr R s p * 60 = sh60 R s p * fc (nP R) := by
  have hn : nP R ≤ 6 := h.1.1
  have e1 : ∀ x, x < 2 ^ nP R → shT R s p x = sm (fun m => cond (s p m) (mw R m * cond (Nat.testBit x p) 0 (cond (Nat.beq (x &&& bn (fun q => s q m) (nP R)) 0) (fc (pc x) * fc (nP R - pc x - 1)) 0)) 0) (nM R) := fun x hx => by
    unfold shT
    cases hb : Nat.testBit x p
    · have hd : wth R (aS R s (Nat.testBit (x ||| 2 ^ p))) = wth R (aS R s (Nat.testBit x)) + sm (fun m => cond (s p m && !aS R s (Nat.testBit x) m) (mw R m) 0) (nM R) := by
        unfold wth
        rw [← sm_add]
        refine sm_congr (fun m _ => ?_)
        rw [aS_or hp]
        cases aS R s (Nat.testBit x) m <;> cases s p m <;> simp
      rw [cond_false, hd, Nat.add_sub_cancel_left, ← sm_mul]
      refine sm_congr (fun m _ => ?_)
      rw [aS_and hx]
      cases s p m <;> cases Nat.beq (x &&& bn (fun q => s q m) (nP R)) 0 <;> simp [Nat.mul_comm]
    · rw [cond_true]
      refine ((sm_zero (nM R)).symm.trans (sm_congr (fun m _ => ?_)))
      cases s p m <;> simp
  have e2 : shr R s p = sm (fun m => cond (s p m) (mw R m * shC (nP R) p (bn (fun q => s q m) (nP R))) 0) (nM R) := by
    unfold shr
    rw [sm_congr e1, sm_swap]
    refine sm_congr (fun m _ => ?_)
    cases s p m
    · exact sm_zero _
    · show sm (fun x => mw R m * cond (Nat.testBit x p) 0 (cond (Nat.beq (x &&& bn (fun q => s q m) (nP R)) 0) (fc (pc x) * fc (nP R - pc x - 1)) 0)) (2 ^ nP R) = _
      rw [sm_mul]
      rfl
  rw [e2, Nat.mul_comm, ← sm_mul]
  unfold sh60
  rw [Nat.mul_comm (sm _ _) (fc (nP R)), ← sm_mul]
  refine sm_congr (fun m _ => ?_)
  cases hs : s p m
  · rfl
  · rw [cond_true, cond_true]
    have := shC_e hn hp (bn_lt (fun q => s q m) (nP R)) (by rw [bn_tb, decide_eq_true hp, hs]; rfl)
    rw [Nat.mul_left_comm, Nat.mul_comm 60, this, Nat.mul_left_comm]
theorem sh60_le {R : RF} (h : WF R) (s : Nat → Nat → Bool) (p : Nat) : sh60 R s p ≤ 41580 := by
  have h1 := sm_le (f := fun m => cond (s p m) (mw R m * (60 / pc (bn (fun q => s q m) (nP R)))) 0) (c := 5940) (n := nM R) (fun m hm => by
    have hw := (h.2.2.2.1 m hm).2.2
    cases s p m
    · exact Nat.zero_le _
    · exact Nat.le_trans (Nat.mul_le_mul hw (Nat.div_le_self 60 _)) (by omega))
  have h2 : nM R ≤ 7 := h.1.2.1
  have h3 : sh60 R s p ≤ 5940 * nM R := h1
  omega
theorem cn_pos {P : Nat → Bool} : ∀ {n k : Nat}, k < n → P k = true → 1 ≤ cn P n
  | 0, k, h, _ => absurd h (by omega)
  | n + 1, k, h, hp => by
    show 1 ≤ cn P n + cond (P n) 1 0
    by_cases hk : k = n
    · rw [← hk, hp]
      show 1 ≤ cn P k + 1
      omega
    · have := cn_pos (P := P) (n := n) (k := k) (by omega) hp
      omega
theorem k_sixtieths {σ : St} {R : RF} (h : HV σ R) {p : Nat} (hp : p < nP R) : Cc 108 0 [vR 72 0, vI (nI p)] σ = some (some (vI (nI (sh60 R (see R (fal R)) p))), σ) := by
  have hbb := h.1.b
  rw [c_Sight_sixtiethsOfShare]
  refine (lpS (V := fun x j => Vv 108 0 4 [some (vR 72 0), some (vI (nI p)), some (vI x), some (vI (nI j)), none] [] σ) (f := fun m => cond (see R (fal R) p m) (mw R m * (60 / pc (bn (fun q => see R (fal R) q m) (nP R)))) 0) (n := nM R) (fun j x hj => ?_)).trans ?_
  · show Vv _ _ _ _ _ _ = Vv _ _ _ _ _ _
    have hlt : bn (fun q => see R (fal R) q j) (nP R) < 64 := bn_le (N := 6) (by omega)
    have hpc : pc (bn (fun q => see R (fal R) q j) (nP R)) ≤ 8 := cn_le _ _
    rw [v_Sight_sixtiethsOfShare_4, h.1.prM.1, if_pos (nI_lt hj (by omega)), k_placesOf h.1 h.2.1 hj, cI_s, k_bitCount σ hlt, cI_s, k_isSeen h.1 h.2.1 hp hj, cI_s, tv_ite, h_worthOfMark h.1 hj, cI_s, nI_1]
    cases hs : see R (fal R) p j
    · show Vv _ _ _ _ _ _ = Vv _ _ _ [_, _, some (vI (x + nI 0)), _, _] _ _
      rw [q_0, Int32.add_zero]
    · have h1 : 1 ≤ pc (bn (fun q => see R (fal R) q j) (nP R)) := by
        rw [pc_cn (by omega)]
        exact cn_pos hp hs
      have e60 : (60 : Int32) / nI (pc (bn (fun q => see R (fal R) q j) (nP R))) = nI (60 / pc (bn (fun q => see R (fal R) q j) (nP R))) := pk_div (a := 60) (by omega) (by omega) (by omega)
      rw [cond_true, if_neg (nI_nle h1 (by omega)), if_neg (nI_ne0 h1 (by omega)), e60, pk_mul]
      rfl
  · show Vv _ _ _ _ _ _ = _
    rw [v_Sight_sixtiethsOfShare_4, h.1.prM.1, if_neg (nI_nlt (Nat.le_refl _) (by omega))]
    rfl
theorem t_share {σ : St} {R : RF} (h : HV σ R) (a1 a2 : Int32) : RH 154 [vI a1, vI a2] σ (vI (cond (inB a1 (nP R) && inB a2 2) (nI (lo (shr R (see R (fal R)) (cl a1)) (fc (nP R)) a2)) (-2))) := by
  have hbb := h.1.b
  refine RH_of (by rw [c_H_share, k_has h.1.prP (by omega), cI_s, tv_ite, h_two, cI_s, tv_ite, cond_and]) (fun hq => ?_)
  rw [Bool.and_eq_true] at hq
  obtain ⟨p, hp, rfl⟩ := inB_e (by omega) hq.1
  have h60 := sh60_le h.1.1 (see R (fal R)) p
  have e60 : (60 : Int64) = lN 60 := rfl
  rw [k_sixtieths h hp, cI_s, nI_l (by omega), e60, h_lowest σ (by omega) (by omega) (by omega) hq.2, cL_s, lN_i, cl_n (by omega), lo_eq (by omega) (fc_pos (nP R)) (shr_60 h.1.1 (see R (fal R)) hp).symm]
