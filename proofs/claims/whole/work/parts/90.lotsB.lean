/-! LOTS: orders are counted -/
theorem pco_d : ∀ n, n < 7 → (List.range (2 ^ n)).all (fun x => (List.range n).all (fun p => cond (Nat.testBit x p) true (Nat.beq (pc (x ||| 2 ^ p)) (pc x + 1)))) = true := by decide +kernel
theorem pc_or {n x p : Nat} (hn : n ≤ 6) (hx : x < 2 ^ n) (hp : p < n) (h : Nat.testBit x p = false) : pc (x ||| 2 ^ p) = pc x + 1 := by
  have := List.all_eq_true.mp (List.all_eq_true.mp (pco_d n (by omega)) x (List.mem_range.mpr hx)) p (List.mem_range.mpr hp)
  rw [h] at this
  exact Nat.eq_of_beq_eq_true this
theorem pcf_d : ∀ n, n < 7 → (List.range (2 ^ n)).all (fun x => cond (Nat.ble n (pc x)) true ((List.range n).any (fun p => !Nat.testBit x p))) = true := by decide +kernel
theorem pc_free {n x : Nat} (hn : n ≤ 6) (hx : x < 2 ^ n) (h : pc x < n) : ∃ p, p < n ∧ Nat.testBit x p = false := by
  have q := List.all_eq_true.mp (pcf_d n (by omega)) x (List.mem_range.mpr hx)
  have hb : Nat.ble n (pc x) = false := by
    cases hz : Nat.ble n (pc x)
    · rfl
    · have := Nat.le_of_ble_eq_true hz
      omega
  rw [hb, cond_false] at q
  obtain ⟨p, h1, h2⟩ := List.any_eq_true.mp q
  refine ⟨p, List.mem_range.mp h1, ?_⟩
  cases hz : Nat.testBit x p
  · rfl
  · rw [hz] at h2; cases h2
theorem len_d : ∀ L, L < 7 → (List.range (2 ^ L)).all (fun s => Nat.beq (rws L (L - pc s) s).length (fc (L - pc s))) = true := by decide +kernel
theorem rws_fc {L s k : Nat} (hL : L ≤ 6) (hs : s < 2 ^ L) (hk : k + pc s = L) : (rws L k s).length = fc k := by
  have q := List.all_eq_true.mp (len_d L (by omega)) s (List.mem_range.mpr hs)
  rw [show L - pc s = k by omega] at q
  exact Nat.eq_of_beq_eq_true q
/-- what he takes when they come in this order -/
def tbo (R : RF) (l : Nat) : List Nat → Nat → Int32
  | [], _ => -1
  | m :: r, u => cond (Nat.beq m l) (tko R u m) (tbo R l r (u ||| 2 ^ cl (tko R u m)))
def cnl (Q : List Nat → Bool) : List (List Nat) → Nat
  | [] => 0
  | r :: l => cond (Q r) 1 0 + cnl Q l
theorem cnl_a (Q : List Nat → Bool) : ∀ l l', cnl Q (l ++ l') = cnl Q l + cnl Q l'
  | [], l' => (Nat.zero_add _).symm
  | r :: l, l' => by
    show cond (Q r) 1 0 + cnl Q (l ++ l') = cond (Q r) 1 0 + cnl Q l + cnl Q l'
    rw [cnl_a Q l l', Nat.add_assoc]
theorem cnl_f (Q : List Nat → Bool) (g : Nat → List (List Nat)) : ∀ n, cnl Q ((List.range n).flatMap g) = sm (fun m => cnl Q (g m)) n
  | 0 => rfl
  | n + 1 => by
    rw [List.range_succ, List.flatMap_append, cnl_a, cnl_f Q g n]
    show _ = sm (fun m => cnl Q (g m)) n + cnl Q (g n)
    congr 1
    simp
theorem cnl_m (Q : List Nat → Bool) (m : Nat) : ∀ l, cnl Q (l.map (fun r => m :: r)) = cnl (fun r => Q (m :: r)) l
  | [] => rfl
  | r :: l => by
    show cond (Q (m :: r)) 1 0 + cnl Q (l.map (fun r => m :: r)) = cond (Q (m :: r)) 1 0 + cnl (fun r => Q (m :: r)) l
    rw [cnl_m Q m l]
theorem cnl_k (b : Bool) : ∀ l, cnl (fun _ => b) l = cond b l.length 0
  | [] => by cases b <;> rfl
  | r :: l => by
    show cond b 1 0 + cnl (fun _ => b) l = _
    rw [cnl_k b l]
    cases b
    · rfl
    · exact Nat.add_comm _ _
def lfS (R : RF) (l : Nat) (p : Int32) : Nat → Nat → Nat → Nat
  | 0, _, _ => 0
  | k + 1, s, u => sm (fun m => cond (Nat.testBit s m) 0 (cond (Nat.beq m l) (cond (decide (tko R u m = p)) (fc k) 0) (lfS R l p k (s ||| 2 ^ m) (u ||| 2 ^ cl (tko R u m))))) (nL R)
theorem lf_eq {R : RF} (hL : nL R ≤ 6) {l : Nat} (hl : l < nL R) (p : Int32) : ∀ (k s u : Nat), k + pc s = nL R → s < 2 ^ nL R → Nat.testBit s l = false → cnl (fun r => decide (tbo R l r u = p)) (rws (nL R) k s) = lfS R l p k s u
  | 0, s, u, hk, hs, hb => by
    have := pc_out hL hs hl hb
    omega
  | k + 1, s, u, hk, hs, hb => by
    show cnl _ ((List.range (nL R)).flatMap _) = sm _ (nL R)
    rw [cnl_f]
    refine sm_congr (fun m hm => ?_)
    show cnl _ (cond (Nat.testBit s m) [] ((rws (nL R) k (s ||| 2 ^ m)).map (fun r => m :: r))) = cond (Nat.testBit s m) 0 (cond (Nat.beq m l) (cond (decide (tko R u m = p)) (fc k) 0) (lfS R l p k (s ||| 2 ^ m) (u ||| 2 ^ cl (tko R u m))))
    cases hm1 : Nat.testBit s m
    · have hpc := pc_or hL hs hm hm1
      have hs' : s ||| 2 ^ m < 2 ^ nL R := Nat.or_lt_two_pow hs (Nat.pow_lt_pow_right (by omega) hm)
      rw [cond_false, cond_false, cnl_m]
      cases hml : Nat.beq m l
      · have hne : m ≠ l := Nat.ne_of_beq_eq_false hml
        have hb' : Nat.testBit (s ||| 2 ^ m) l = false := by
          rw [Nat.testBit_or, hb, Nat.testBit_two_pow_of_ne hne]; rfl
        rw [cond_false, ← lf_eq hL hl p k (s ||| 2 ^ m) (u ||| 2 ^ cl (tko R u m)) (by omega) hs' hb']
        congr 1
        funext r
        show decide (cond (Nat.beq m l) _ _ = p) = _
        rw [hml]
        rfl
      · rw [cond_true]
        have e : (fun r => decide (tbo R l (m :: r) u = p)) = fun _ => decide (tko R u m = p) := by
          funext r
          show decide (cond (Nat.beq m l) _ _ = p) = _
          rw [hml]
          rfl
        rw [e, cnl_k, rws_fc hL hs' (by omega)]
    · rfl
/-- the reference counts them -/
theorem s_lots {σ : St} {R : RF} (h : H0 σ R) (hE : SE σ R (fal R)) {l : Nat} (hl : l < nL R) (a2 : Int32) : ∀ (k rq s u : Nat), k + pc s = nL R → k < rq → s < 2 ^ nL R → u < 2 ^ nP R → pc u = pc s → Cc 330 rq [vR 96 0, vI (nI l), vI a2, vI (nI s), vI (nI u)] σ = some (some (vI (nI (lfS R l a2 k s u))), σ)
  | _, 0, _, _, _, hr, _, _, _ => absurd hr (by omega)
  | 0, rq + 1, s, u, hk, hr, hs, hu, hpc => by
    have hbb := h.b
    have p6 : 2 ^ nL R ≤ 2 ^ 6 := Nat.pow_le_pow_right (by omega) (by omega)
    have ha : ∀ m, m < nL R → Nat.testBit s m = true := fun m hm => by
      cases hz : Nat.testBit s m
      · have := pc_out (by omega) hs hm hz
        omega
      · rfl
    rw [c_M_lotsFrom]
    refine (lpU (V := fun j => Vv 330 (rq + 1) 6 [some (vR 96 0), some (vI (nI l)), some (vI a2), some (vI (nI s)), some (vI (nI u)), some (vI 0), some (vI (nI j)), none] [] σ) (n := nL R) (fun j hj => ?_)).trans ?_
    · show Vv _ _ _ _ _ _ = Vv _ _ _ _ _ _
      rw [w_M_lotsFrom_6, cI_L h, if_pos (nI_lt hj (by omega)), s_isBit, bit_n (by omega) (by omega), cI_s, tv_ite, ha j hj, cond_true, nI_1]
    · show Vv _ _ _ _ _ _ = _
      rw [w_M_lotsFrom_6, cI_L h, if_neg (nI_nlt (Nat.le_refl _) (by omega))]
      rfl
  | k + 1, rq + 1, s, u, hk, hr, hs, hu, hpc => by
    have hbb := h.b
    have hLP := vp_le (vp_told h.1)
    have p6 : 2 ^ nL R ≤ 2 ^ 6 := Nat.pow_le_pow_right (by omega) (by omega)
    have p7 : 2 ^ nP R ≤ 2 ^ 6 := Nat.pow_le_pow_right (by omega) (by omega)
    have hfree := pc_free (n := nP R) (by omega) hu (by omega)
    rw [c_M_lotsFrom]
    have key : ∀ (kk j : Nat) (o : Option AV), j + kk = nL R → Vv 330 (rq + 1) 6 [some (vR 96 0), some (vI (nI l)), some (vI a2), some (vI (nI s)), some (vI (nI u)), some (vI (nI (sm (fun m => cond (Nat.testBit s m) 0 (cond (Nat.beq m l) (cond (decide (tko R u m = a2)) (fc k) 0) (lfS R l a2 k (s ||| 2 ^ m) (u ||| 2 ^ cl (tko R u m))))) j))), some (vI (nI j)), o] [] σ = some (some (vI (nI (lfS R l a2 (k + 1) s u))), σ) := by
      intro kk
      induction kk with
      | zero =>
        intro j o hj
        have hj : j = nL R := by omega
        subst hj
        rw [w_M_lotsFrom_6, cI_L h, if_neg (nI_nlt (Nat.le_refl _) (by omega))]
        rfl
      | succ kk ih =>
        intro j o hj
        have hjL : j < nL R := by omega
        have es : sm (fun m => cond (Nat.testBit s m) 0 (cond (Nat.beq m l) (cond (decide (tko R u m = a2)) (fc k) 0) (lfS R l a2 k (s ||| 2 ^ m) (u ||| 2 ^ cl (tko R u m))))) (j + 1) = sm (fun m => cond (Nat.testBit s m) 0 (cond (Nat.beq m l) (cond (decide (tko R u m = a2)) (fc k) 0) (lfS R l a2 k (s ||| 2 ^ m) (u ||| 2 ^ cl (tko R u m))))) j + cond (Nat.testBit s j) 0 (cond (Nat.beq j l) (cond (decide (tko R u j = a2)) (fc k) 0) (lfS R l a2 k (s ||| 2 ^ j) (u ||| 2 ^ cl (tko R u j)))) := rfl
        have ih' := fun o => ih (j + 1) o (by omega)
        rw [es] at ih'
        rw [w_M_lotsFrom_6, cI_L h, if_pos (nI_lt hjL (by omega)), s_isBit, bit_n (by omega) (by omega), cI_s, tv_ite, nI_1]
        cases hb : Nat.testBit s j
        · rw [hb] at ih'
          obtain ⟨p, hp, hup, ep⟩ := tko_p (m := j) hfree
          have ecl : cl (tko R u j) = p := by rw [ep, cl_n (by omega)]
          rw [cond_false, s_takes h hE hjL (by omega), cI_s]
          cases hjl : Nat.beq j l
          · have hne : j ≠ l := Nat.ne_of_beq_eq_false hjl
            rw [hjl, cond_false, cond_false] at ih'
            have hpcs := pc_or (n := nL R) (by omega) hs hjL hb
            have hpcu := pc_or (n := nP R) (by omega) hu hp hup
            have c6 := s_lots h hE hl a2 k rq (s ||| 2 ^ j) (u ||| 2 ^ p) (by omega) (by omega) (Nat.or_lt_two_pow hs (Nat.pow_lt_pow_right (by omega) hjL)) (Nat.or_lt_two_pow hu (Nat.pow_lt_pow_right (by omega) hp)) (by omega)
            rw [ecl] at ih'
            rw [if_neg (fun z => hne ((nI_eq (by omega) (by omega)).mp z)), ep, shl_1 _ (by omega), nI_or, shl_1 _ (by omega), nI_or, c6, cI_s, nI_add]
            exact ih' _
          · rw [hjl, cond_false, cond_true] at ih'
            rw [if_pos (by rw [Nat.eq_of_beq_eq_true hjl])]
            by_cases hq : tko R u j = a2
            · rw [decide_eq_true hq, cond_true] at ih'
              have e1 : nI (nL R) - nI (pc s) = nI (nL R - pc s) := pk_sub (by omega)
              have e2 : nI (nL R - pc s) - 1 = nI k := by rw [show nL R - pc s = k + 1 by omega]; exact nI_m1 k
              rw [if_pos hq, cI_L h, s_sizeOf σ (by omega), cI_s, e1, e2, s_times σ k 11 (by omega) (by omega), cI_s, nI_add]
              exact ih' _
            · rw [decide_eq_false hq, cond_false, Nat.add_zero] at ih'
              rw [if_neg hq, Int32.add_zero]
              exact ih' _
        · rw [hb, cond_true, Nat.add_zero] at ih'
          rw [cond_true]
          exact ih' _
    exact key (nL R) 0 none (by omega)
