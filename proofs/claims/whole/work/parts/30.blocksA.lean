/-! BLOCKS: by program (wip/whole/blocks.py, split.py) -/
/-! Acts.isFull -/
set_option maxRecDepth 100000 in
theorem c_Acts_isFull (σ : St) (i0 : Nat) : Cc 1 0 [vR 0 i0] σ = if (gI σ 0 i0 3) < (30 : Int32) then retZ 0 σ else retZ 1 σ :=
  (Cc_eq _ _ _ _).trans (U_at (fun pc => false) 400 rfl)
/-! Acts.addExchange -/
set_option maxRecDepth 100000 in
theorem c_Acts_addExchange (σ : St) (a1 a2 a3 : Int32) (i0 : Nat) : Cc 2 0 [vR 0 i0, vI a1, vI a2, vI a3] σ = cI (Cc 1 0 [vR 0 i0] σ) (fun x2 σ1 => if x2 = 0 then ix (gI σ1 0 i0 3) 30 (fun k3 => ix (gI (sI σ1 15489 i0 k3 a1) 0 i0 3) 30 (fun k4 => ix (gI (sI (sI σ1 15489 i0 k3 a1) 15497 i0 k4 a2) 0 i0 3) 30 (fun k5 => some (none, sI (sI (sI (sI σ1 15489 i0 k3 a1) 15497 i0 k4 a2) 15505 i0 k5 a3) 0 i0 3 ((gI (sI (sI (sI σ1 15489 i0 k3 a1) 15497 i0 k4 a2) 15505 i0 k5 a3) 0 i0 3) + (1 : Int32)))))) else some (none, σ1)) :=
  (Cc_eq _ _ _ _).trans (U_at (fun pc => false) 400 rfl)
/-! Acts.addFelling -/
set_option maxRecDepth 100000 in
theorem c_Acts_addFelling (σ : St) (a1 : Int32) (i0 : Nat) : Cc 3 0 [vR 0 i0, vI a1] σ = cV (Cc 2 0 [vR 0 i0, vI a1, vI (-1), vI (-1)] σ) (fun σ1 => some (none, σ1)) :=
  (Cc_eq _ _ _ _).trans (U_at (fun pc => false) 400 rfl)
/-! Acts.isFallen -/
set_option maxRecDepth 100000 in
theorem c_Acts_isFallen (σ : St) (a1 : Int32) (i0 : Nat) : Cc 4 0 [vR 0 i0, vI a1] σ = Vv 4 0 2 [some (vR 0 i0), some (vI a1), some (vI 0)] [] σ :=
  (Cc_eq _ _ _ _).trans (U_at (fun pc => Nat.beq pc 2) 400 rfl)
set_option maxRecDepth 100000 in
theorem v_Acts_isFallen_2 (σ : St) (l1 l2 : Int32) (i0 : Nat) : Vv 4 0 2 [some (vR 0 i0), some (vI l1), some (vI l2)] [] σ = if l2 < (gI σ 0 i0 3) then ix l2 30 (fun k1 => if (gI σ 15505 i0 k1) = (-1 : Int32) then ix l2 30 (fun k2 => if (gI σ 15489 i0 k2) = l1 then retZ 1 σ else Vv 4 0 2 [some (vR 0 i0), some (vI l1), some (vI (l2 + 1))] [] σ) else Vv 4 0 2 [some (vR 0 i0), some (vI l1), some (vI (l2 + 1))] [] σ) else retZ 0 σ :=
  U_at (fun pc => Nat.beq pc 2) 400 rfl
/-! Acts.exchangeIn -/
set_option maxRecDepth 100000 in
theorem c_Acts_exchangeIn (σ : St) (a1 : Int32) (i0 i2 : Nat) : Cc 5 0 [vR 0 i0, vI a1, vR 3289 i2] σ = Vv 5 0 2 [some (vR 0 i0), some (vI a1), some (vR 3289 i2), some (vI 0)] [] σ :=
  (Cc_eq _ _ _ _).trans (U_at (fun pc => Nat.beq pc 2) 400 rfl)
set_option maxRecDepth 100000 in
theorem v_Acts_exchangeIn_2 (σ : St) (l1 l3 : Int32) (i0 i2 : Nat) : Vv 5 0 2 [some (vR 0 i0), some (vI l1), some (vR 3289 i2), some (vI l3)] [] σ = if l3 < (gI σ 0 i0 3) then ix l3 30 (fun k1 => if (gI σ 15505 i0 k1) = l1 then ix l3 30 (fun k2 => ix l3 30 (fun k3 => cV (Cc 6 0 [vR 3289 i2, vI (gI σ 15489 i0 k2), vI (gI σ 15497 i0 k3)] σ) (fun σ4 => Vv 5 0 2 [some (vR 0 i0), some (vI l1), some (vR 3289 i2), some (vI (l3 + 1))] [] σ4))) else Vv 5 0 2 [some (vR 0 i0), some (vI l1), some (vR 3289 i2), some (vI (l3 + 1))] [] σ) else some (none, σ) :=
  U_at (fun pc => Nat.beq pc 2) 400 rfl
/-! Acts.exchange -/
set_option maxRecDepth 100000 in
theorem c_Acts_exchange (σ : St) (a2 a3 : Int32) (i1 : Nat) : Cc 6 0 [vR 3289 i1, vI a2, vI a3] σ = if a2 < 0 then some (none, σ) else if a2 < (Int32.ofNat 6) then if a3 < 0 then some (none, σ) else if a3 < (Int32.ofNat 6) then ix a2 6 (fun k1 => ix a3 6 (fun k2 => ix a2 6 (fun k3 => ix a3 6 (fun k4 => some (none, sI (sI σ 3289 i1 k3 (gI σ 3289 i1 k2)) 3289 i1 k4 (gI σ 3289 i1 k1)))))) else some (none, σ) else some (none, σ) :=
  (Cc_eq _ _ _ _).trans (U_at (fun pc => false) 400 rfl)
/-! Acts.copyFrom -/
set_option maxRecDepth 100000 in
theorem c_Acts_copyFrom (σ : St) (i0 i1 : Nat) : Cc 7 0 [vR 0 i0, vR 0 i1] σ = Vv 7 0 7 [some (vR 0 i0), some (vR 0 i1), some (vI 0)] [] (sI σ 0 i0 3 0) :=
  (Cc_eq _ _ _ _).trans (U_at (fun pc => Nat.beq pc 7) 400 rfl)
set_option maxRecDepth 100000 in
theorem v_Acts_copyFrom_7 (σ : St) (l2 : Int32) (i0 i1 : Nat) : Vv 7 0 7 [some (vR 0 i0), some (vR 0 i1), some (vI l2)] [] σ = if l2 < (gI σ 0 i1 3) then ix l2 30 (fun k1 => ix l2 30 (fun k2 => ix l2 30 (fun k3 => cV (Cc 2 0 [vR 0 i0, vI (gI σ 15489 i1 k1), vI (gI σ 15497 i1 k2), vI (gI σ 15505 i1 k3)] σ) (fun σ4 => Vv 7 0 7 [some (vR 0 i0), some (vR 0 i1), some (vI (l2 + 1))] [] σ4)))) else some (none, σ) :=
  U_at (fun pc => Nat.beq pc 7) 400 rfl
/-! Book.isRight -/
set_option maxRecDepth 100000 in
theorem c_Book_isRight (σ : St) (i1 : Nat) : Cc 8 0 [vR 8 0, vR 80 i1] σ = if (3 : Int32) = 0 then none else if ((gI σ 80 i1 3) - (gI σ 80 i1 3) / (3 : Int32) * (3 : Int32)) = 0 then Vv 8 0 13 [some (vR 8 0), some (vR 80 i1), some (vI 0), none, none, none, none, none, none, none] [] σ else retZ 0 σ :=
  (Cc_eq _ _ _ _).trans (U_at (fun pc => Nat.beq pc 13 || Nat.beq pc 109) 400 rfl)
set_option maxRecDepth 100000 in
theorem v_Book_isRight_13 (σ : St) (l2 : Int32) (i1 : Nat) : Vv 8 0 13 [some (vR 8 0), some (vR 80 i1), some (vI l2), none, none, none, none, none, none, none] [] σ = if l2 < (gI σ 80 i1 3) then cL (Cc 112 0 [vR 80 i1, vI l2] σ) (fun x2 σ1 => cL (Cc 112 0 [vR 80 i1, vI (l2 + (1 : Int32))] σ1) (fun x4 σ3 => cL (Cc 112 0 [vR 80 i1, vI (l2 + (2 : Int32))] σ3) (fun x6 σ5 => if (lg_cmp x2 0) < 0 then Vv 8 0 109 [some (vR 8 0), some (vR 80 i1), some (vI l2), some (vL x2), none, some (vL x4), none, some (vL x6), none, some (vI 0)] [] σ5 else if (lg_cmp x2 (Int32.toInt64 (gI σ5 48 0 0))) ≤ 0 then if (lg_cmp x4 0) < 0 then Vv 8 0 109 [some (vR 8 0), some (vR 80 i1), some (vI l2), some (vL x2), none, some (vL x4), none, some (vL x6), none, some (vI 0)] [] σ5 else if (lg_cmp x4 (Int32.toInt64 (gI σ5 32 1 2))) < 0 then if (lg_cmp x6 0) < 0 then Vv 8 0 109 [some (vR 8 0), some (vR 80 i1), some (vI l2), some (vL x2), none, some (vL x4), none, some (vL x6), none, some (vI 0)] [] σ5 else if (lg_cmp x6 1) ≤ 0 then Vv 8 0 109 [some (vR 8 0), some (vR 80 i1), some (vI l2), some (vL x2), none, some (vL x4), none, some (vL x6), none, some (vI 1)] [] σ5 else Vv 8 0 109 [some (vR 8 0), some (vR 80 i1), some (vI l2), some (vL x2), none, some (vL x4), none, some (vL x6), none, some (vI 0)] [] σ5 else Vv 8 0 109 [some (vR 8 0), some (vR 80 i1), some (vI l2), some (vL x2), none, some (vL x4), none, some (vL x6), none, some (vI 0)] [] σ5 else Vv 8 0 109 [some (vR 8 0), some (vR 80 i1), some (vI l2), some (vL x2), none, some (vL x4), none, some (vL x6), none, some (vI 0)] [] σ5))) else retZ 1 σ :=
  U_at (fun pc => Nat.beq pc 13 || Nat.beq pc 109) 400 rfl
set_option maxRecDepth 100000 in
theorem v_Book_isRight_109 (σ : St) (l2 l9 : Int32) (l3 l5 l7 : Int64) (i1 : Nat) : Vv 8 0 109 [some (vR 8 0), some (vR 80 i1), some (vI l2), some (vL l3), none, some (vL l5), none, some (vL l7), none, some (vI l9)] [] σ = if l9 = 0 then retZ 0 σ else Vv 8 0 13 [some (vR 8 0), some (vR 80 i1), some (vI (l2 + 3)), none, none, none, none, none, none, none] [] σ :=
  U_at (fun pc => Nat.beq pc 13 || Nat.beq pc 109) 400 rfl
/-! Book.firstPlaces -/
set_option maxRecDepth 100000 in
theorem c_Book_firstPlaces (σ : St) (a2 : Int32) (i1 : Nat) : Cc 9 0 [vR 8 0, vR 80 i1, vI a2] σ = Vv 9 0 5 [some (vR 8 0), some (vR 80 i1), some (vI a2), some (vI 0), some (vI 0)] [] σ :=
  (Cc_eq _ _ _ _).trans (U_at (fun pc => Nat.beq pc 5) 400 rfl)
set_option maxRecDepth 100000 in
theorem v_Book_firstPlaces_5 (σ : St) (l2 l3 l4 : Int32) (i1 : Nat) : Vv 9 0 5 [some (vR 8 0), some (vR 80 i1), some (vI l2), some (vI l3), some (vI l4)] [] σ = if l4 < (gI σ 32 0 2) then cI (Cc 15 0 [vR 8 0, vR 80 i1, vI l2, vI l4] σ) (fun x2 σ1 => if x2 = 0 then Vv 9 0 5 [some (vR 8 0), some (vR 80 i1), some (vI l2), some (vI l3), some (vI (l4 + 1))] [] σ1 else Vv 9 0 5 [some (vR 8 0), some (vR 80 i1), some (vI l2), some (vI (l3 ||| ((1 : Int32) <<< (l4 &&& 31)))), some (vI (l4 + 1))] [] σ1) else some (some (vI l3), σ) :=
  U_at (fun pc => Nat.beq pc 5) 400 rfl
/-! Book.lawsThatAgree -/
set_option maxRecDepth 100000 in
theorem c_Book_lawsThatAgree (σ : St) (a2 : Int32) (i1 : Nat) : Cc 10 0 [vR 8 0, vR 80 i1, vI a2] σ = Vv 10 0 5 [some (vR 8 0), some (vR 80 i1), some (vI a2), some (vI 0), some (vI 0)] [] σ :=
  (Cc_eq _ _ _ _).trans (U_at (fun pc => Nat.beq pc 5) 400 rfl)
set_option maxRecDepth 100000 in
theorem v_Book_lawsThatAgree_5 (σ : St) (l2 l3 l4 : Int32) (i1 : Nat) : Vv 10 0 5 [some (vR 8 0), some (vR 80 i1), some (vI l2), some (vI l3), some (vI l4)] [] σ = if l4 < (4 : Int32) then cV (Cc 23 0 [vR 24 1] σ) (fun σ1 => cV (Cc 25 0 [vR 24 1, vI l4, vI (-1)] σ1) (fun σ2 => cI (Cc 16 0 [vR 8 0, vR 80 i1, vI l2] σ2) (fun x4 σ3 => if x4 = 0 then Vv 10 0 5 [some (vR 8 0), some (vR 80 i1), some (vI l2), some (vI l3), some (vI (l4 + 1))] [] σ3 else Vv 10 0 5 [some (vR 8 0), some (vR 80 i1), some (vI l2), some (vI (l3 ||| ((1 : Int32) <<< (l4 &&& 31)))), some (vI (l4 + 1))] [] σ3))) else some (some (vI l3), σ) :=
  U_at (fun pc => Nat.beq pc 5) 400 rfl
/-! Book.tallyYears -/
set_option maxRecDepth 100000 in
theorem c_Book_tallyYears (σ : St) (a2 : Int32) (i1 : Nat) : Cc 11 0 [vR 8 0, vR 80 i1, vI a2] σ = Vv 11 0 7 [some (vR 8 0), some (vR 80 i1), some (vI a2), some (vI 0), none] [] (sI σ 8 0 3 0) :=
  (Cc_eq _ _ _ _).trans (U_at (fun pc => Nat.beq pc 7 || Nat.beq pc 16 || Nat.beq pc 47) 400 rfl)
set_option maxRecDepth 100000 in
theorem v_Book_tallyYears_7 (σ : St) (l2 l3 : Int32) (i1 : Nat) : Vv 11 0 7 [some (vR 8 0), some (vR 80 i1), some (vI l2), some (vI l3), none] [] σ = if l3 ≤ (12 : Int32) then Vv 11 0 16 [some (vR 8 0), some (vR 80 i1), some (vI l2), some (vI l3), some (vI 0)] [] σ else Vv 11 0 47 [some (vR 8 0), some (vR 80 i1), some (vI l2), some (vI 0), none] [] σ :=
  U_at (fun pc => Nat.beq pc 7 || Nat.beq pc 16 || Nat.beq pc 47) 400 rfl
set_option maxRecDepth 100000 in
theorem v_Book_tallyYears_16 (σ : St) (l2 l3 l4 : Int32) (i1 : Nat) : Vv 11 0 16 [some (vR 8 0), some (vR 80 i1), some (vI l2), some (vI l3), some (vI l4)] [] σ = if l4 < (6 : Int32) then ix l3 13 (fun k1 => ix l4 6 (fun k2 => Vv 11 0 16 [some (vR 8 0), some (vR 80 i1), some (vI l2), some (vI l3), some (vI (l4 + 1))] [] (sI σ 3361 k1 k2 0))) else Vv 11 0 7 [some (vR 8 0), some (vR 80 i1), some (vI l2), some (vI (l3 + 1)), none] [] σ :=
  U_at (fun pc => Nat.beq pc 7 || Nat.beq pc 16 || Nat.beq pc 47) 400 rfl
set_option maxRecDepth 100000 in
theorem v_Book_tallyYears_47 (σ : St) (l2 l3 : Int32) (i1 : Nat) : Vv 11 0 47 [some (vR 8 0), some (vR 80 i1), some (vI l2), some (vI l3), none] [] σ = if l3 < (gI σ 32 0 2) then cI (Cc 15 0 [vR 8 0, vR 80 i1, vI l2, vI l3] σ) (fun x2 σ1 => if x2 = 0 then Vv 11 0 47 [some (vR 8 0), some (vR 80 i1), some (vI l2), some (vI (l3 + 1)), none] [] σ1 else cV (Cc 12 0 [vR 8 0, vI l2] (sI σ1 8 0 3 ((gI σ1 8 0 3) + (1 : Int32)))) (fun σ3 => Vv 11 0 47 [some (vR 8 0), some (vR 80 i1), some (vI l2), some (vI (l3 + 1)), none] [] σ3)) else some (none, σ) :=
  U_at (fun pc => Nat.beq pc 7 || Nat.beq pc 16 || Nat.beq pc 47) 400 rfl
/-! Book.tallyCourse -/
set_option maxRecDepth 100000 in
theorem c_Book_tallyCourse (σ : St) (a1 : Int32) : Cc 12 0 [vR 8 0, vI a1] σ = Vv 12 0 2 [some (vR 8 0), some (vI a1), some (vI 0), none] [] σ :=
  (Cc_eq _ _ _ _).trans (U_at (fun pc => Nat.beq pc 2) 400 rfl)
set_option maxRecDepth 100000 in
theorem v_Book_tallyCourse_2 (σ : St) (l1 l2 : Int32) : Vv 12 0 2 [some (vR 8 0), some (vI l1), some (vI l2), none] [] σ = if l2 ≤ (gI σ 48 0 0) then if l2 ≤ (12 : Int32) then cI (Cc 35 0 [vR 24 1, vI l1, vI l2] σ) (fun x2 σ1 => if x2 < 0 then Vv 12 0 2 [some (vR 8 0), some (vI l1), some (vI (l2 + 1)), none] [] σ1 else if x2 < (6 : Int32) then ix l2 13 (fun k3 => ix x2 6 (fun k4 => ix x2 6 (fun k5 => Vv 12 0 2 [some (vR 8 0), some (vI l1), some (vI (l2 + 1)), none] [] (sI σ1 3361 k3 k5 ((gI σ1 3361 k3 k4) + (1 : Int32)))))) else Vv 12 0 2 [some (vR 8 0), some (vI l1), some (vI (l2 + 1)), none] [] σ1) else some (none, σ) else some (none, σ) :=
  U_at (fun pc => Nat.beq pc 2) 400 rfl
/-! Book.yearToAsk -/
set_option maxRecDepth 100000 in
theorem c_Book_yearToAsk (σ : St) : Cc 13 0 [vR 8 0] σ = Vv 13 0 9 [some (vR 8 0), some (vI (-1)), some (vI (gI σ 8 0 3)), some (vI 0)] [] σ :=
  (Cc_eq _ _ _ _).trans (U_at (fun pc => Nat.beq pc 9) 400 rfl)
set_option maxRecDepth 100000 in
theorem v_Book_yearToAsk_9 (σ : St) (l1 l2 l3 : Int32) : Vv 13 0 9 [some (vR 8 0), some (vI l1), some (vI l2), some (vI l3)] [] σ = if l3 ≤ (gI σ 48 0 0) then cI (Cc 14 0 [vR 8 0, vI l3] σ) (fun x2 σ1 => if x2 < l2 then cI (Cc 14 0 [vR 8 0, vI l3] σ1) (fun x4 σ3 => Vv 13 0 9 [some (vR 8 0), some (vI l3), some (vI x4), some (vI (l3 + 1))] [] σ3) else Vv 13 0 9 [some (vR 8 0), some (vI l1), some (vI l2), some (vI (l3 + 1))] [] σ1) else some (some (vI l1), σ) :=
  U_at (fun pc => Nat.beq pc 9) 400 rfl
/-! Book.worstIn -/
set_option maxRecDepth 100000 in
theorem c_Book_worstIn (σ : St) (a1 : Int32) : Cc 14 0 [vR 8 0, vI a1] σ = Vv 14 0 4 [some (vR 8 0), some (vI a1), some (vI 0), some (vI 0)] [] σ :=
  (Cc_eq _ _ _ _).trans (U_at (fun pc => Nat.beq pc 4) 400 rfl)
set_option maxRecDepth 100000 in
theorem v_Book_worstIn_4 (σ : St) (l1 l2 l3 : Int32) : Vv 14 0 4 [some (vR 8 0), some (vI l1), some (vI l2), some (vI l3)] [] σ = if l3 < (6 : Int32) then if l1 < 0 then Vv 14 0 4 [some (vR 8 0), some (vI l1), some (vI l2), some (vI (l3 + 1))] [] σ else if l1 ≤ (12 : Int32) then ix l1 13 (fun k1 => ix l3 6 (fun k2 => Vv 14 0 4 [some (vR 8 0), some (vI l1), some (vI (if l2 < (gI σ 3361 k1 k2) then (gI σ 3361 k1 k2) else l2)), some (vI (l3 + 1))] [] σ)) else Vv 14 0 4 [some (vR 8 0), some (vI l1), some (vI l2), some (vI (l3 + 1))] [] σ else some (some (vI l2), σ) :=
  U_at (fun pc => Nat.beq pc 4) 400 rfl
/-! Book.canHaveBeen -/
set_option maxRecDepth 100000 in
theorem c_Book_canHaveBeen (σ : St) (a2 a3 : Int32) (i1 : Nat) : Cc 15 0 [vR 8 0, vR 80 i1, vI a2, vI a3] σ = cV (Cc 24 0 [vR 24 1, vI a2, vI a3] σ) (fun σ1 => cV (Cc 25 0 [vR 24 1, vI (gI σ1 48 0 1), vI (-1)] σ1) (fun σ2 => cI (Cc 16 0 [vR 8 0, vR 80 i1, vI a2] σ2) (fun x4 σ3 => retZ x4 σ3))) :=
  (Cc_eq _ _ _ _).trans (U_at (fun pc => false) 400 rfl)
/-! Book.agrees -/
set_option maxRecDepth 100000 in
theorem c_Book_agrees (σ : St) (a2 : Int32) (i1 : Nat) : Cc 16 0 [vR 8 0, vR 80 i1, vI a2] σ = Vv 16 0 2 [some (vR 8 0), some (vR 80 i1), some (vI a2), some (vI 0), none, none] [] σ :=
  (Cc_eq _ _ _ _).trans (U_at (fun pc => Nat.beq pc 2) 400 rfl)
set_option maxRecDepth 100000 in
theorem v_Book_agrees_2 (σ : St) (l2 l3 : Int32) (i1 : Nat) : Vv 16 0 2 [some (vR 8 0), some (vR 80 i1), some (vI l2), some (vI l3), none, none] [] σ = if l3 < (gI σ 80 i1 3) then cL (Cc 112 0 [vR 80 i1, vI l3] σ) (fun x2 σ1 => cI (Cc 37 0 [vR 24 1, vI l2, vI (Int64.toInt32 x2)] σ1) (fun x4 σ3 => cL (Cc 112 0 [vR 80 i1, vI (l3 + (1 : Int32))] σ3) (fun x6 σ5 => cL (Cc 112 0 [vR 80 i1, vI (l3 + (2 : Int32))] σ5) (fun x8 σ7 => if (lg_cmp (Int32.toInt64 ((x4 >>> ((Int64.toInt32 x6) &&& 31)) &&& (1 : Int32))) x8) = 0 then Vv 16 0 2 [some (vR 8 0), some (vR 80 i1), some (vI l2), some (vI (l3 + 3)), none, none] [] σ7 else retZ 0 σ7)))) else retZ 1 σ :=
  U_at (fun pc => Nat.beq pc 2) 400 rfl
/-! Chances.tenTo -/
set_option maxRecDepth 100000 in
theorem c_Chances_tenTo (σ : St) (a1 : Int32) : Cc 17 0 [vI a1] σ = Vv 17 0 4 [some (vI a1), some (vL 1), none, some (vI 0)] [] σ :=
  (Cc_eq _ _ _ _).trans (U_at (fun pc => Nat.beq pc 4) 400 rfl)
set_option maxRecDepth 100000 in
theorem v_Chances_tenTo_4 (σ : St) (l0 l3 : Int32) (l1 : Int64) : Vv 17 0 4 [some (vI l0), some (vL l1), none, some (vI l3)] [] σ = if l3 < l0 then if l3 < (8 : Int32) then Vv 17 0 4 [some (vI l0), some (vL (l1 * (10 : Int64))), none, some (vI (l3 + 1))] [] σ else some (some (vL l1), σ) else some (some (vL l1), σ) :=
  U_at (fun pc => Nat.beq pc 4) 400 rfl
/-! Chances.weigh -/
set_option maxRecDepth 100000 in
theorem c_Chances_weigh (σ : St) (a1 a2 : Int32) : Cc 18 0 [vR 16 0, vI a1, vI a2] σ = Vv 18 0 2 [some (vR 16 0), some (vI a1), some (vI a2), some (vI 0)] [] σ :=
  (Cc_eq _ _ _ _).trans (U_at (fun pc => Nat.beq pc 2) 400 rfl)
set_option maxRecDepth 100000 in
theorem v_Chances_weigh_2 (σ : St) (l1 l2 l3 : Int32) : Vv 18 0 2 [some (vR 16 0), some (vI l1), some (vI l2), some (vI l3)] [] σ = if l3 < (6 : Int32) then ix l3 6 (fun k1 => Vv 18 0 2 [some (vR 16 0), some (vI l1), some (vI l2), some (vI (l3 + 1))] [] (sL σ 3346 0 k1 0)) else cV (Cc 23 0 [vR 24 1] σ) (fun σ2 => cV (Cc 26 0 [vR 24 1, vI 0] σ2) (fun σ3 => cV (Cc 19 12 [vR 16 0, vI l1, vI 0, vI (if 8 < l2 then 8 else l2), vL 1] σ3) (fun σ4 => some (none, σ4)))) :=
  U_at (fun pc => Nat.beq pc 2) 400 rfl
/-! Chances.branch -/
set_option maxRecDepth 100000 in
theorem c_Chances_branch (σ : St) (rq : Nat) (a1 a2 a3 : Int32) (a4 : Int64) : Cc 19 (rq + 1) [vR 16 0, vI a1, vI a2, vI a3, vL a4] σ = if (lg_cmp a4 0) = 0 then some (none, σ) else if a2 < a3 then cV (Cc 27 0 [vR 24 1, vI a2] σ) (fun σ1 => cV (Cc 26 0 [vR 24 1, vI (a2 + (1 : Int32))] σ1) (fun σ2 => cV (Cc 19 rq [vR 16 0, vI a1, vI (a2 + (1 : Int32)), vI a3, vL (a4 * (Int32.toInt64 ((10 : Int32) - (gI σ2 48 0 2))))] σ2) (fun σ3 => cV (Cc 28 0 [vR 24 1, vI a2, vI (gI σ3 48 0 1)] σ3) (fun σ4 => cV (Cc 26 0 [vR 24 1, vI (a2 + (1 : Int32))] σ4) (fun σ5 => cV (Cc 19 rq [vR 16 0, vI a1, vI (a2 + (1 : Int32)), vI a3, vL (a4 * (Int32.toInt64 (gI σ5 48 0 2)))] σ5) (fun σ6 => some (none, σ6))))))) else cI (Cc 35 0 [vR 24 1, vI a1, vI a2] σ) (fun x8 σ7 => cV (Cc 20 0 [vR 16 0, vI x8, vL a4] σ7) (fun σ9 => some (none, σ9))) :=
  (Cc_eq _ _ _ _).trans (U_at (fun pc => false) 400 rfl)
/-! Chances.addWeight -/
set_option maxRecDepth 100000 in
theorem c_Chances_addWeight (σ : St) (a1 : Int32) (a2 : Int64) : Cc 20 0 [vR 16 0, vI a1, vL a2] σ = if a1 < 0 then some (none, σ) else if a1 < (6 : Int32) then ix a1 6 (fun k1 => ix a1 6 (fun k2 => some (none, sL σ 3346 0 k2 ((gL σ 3346 0 k1) + a2)))) else some (none, σ) :=
  (Cc_eq _ _ _ _).trans (U_at (fun pc => false) 400 rfl)
/-! Chances.weightOf -/
set_option maxRecDepth 100000 in
theorem c_Chances_weightOf (σ : St) (a1 : Int32) : Cc 21 0 [vR 16 0, vI a1] σ = if a1 < 0 then some (some (vL 0), σ) else if a1 < (6 : Int32) then ix a1 6 (fun k1 => some (some (vL (gL σ 3346 0 k1)), σ)) else some (some (vL 0), σ) :=
  (Cc_eq _ _ _ _).trans (U_at (fun pc => false) 400 rfl)
/-! Chances.drawYears -/
set_option maxRecDepth 100000 in
theorem c_Chances_drawYears (σ : St) (a1 : Int32) : Cc 22 0 [vR 16 0, vI a1] σ = Vv 22 0 9 [some (vR 16 0), some (vI a1), some (vL (Int32.toInt64 a1)), none, some (vI 0), some (vI 0)] [] σ :=
  (Cc_eq _ _ _ _).trans (U_at (fun pc => Nat.beq pc 9) 400 rfl)
set_option maxRecDepth 100000 in
theorem v_Chances_drawYears_9 (σ : St) (l1 l4 l5 : Int32) (l2 : Int64) : Vv 22 0 9 [some (vR 16 0), some (vI l1), some (vL l2), none, some (vI l4), some (vI l5)] [] σ = if l5 < (gI σ 48 0 0) then if (65536 : Int64) = 0 then none else if (10 : Int64) = 0 then none else if (lg_cmp ((((((1103515245 : Int64) * l2) + (12345 : Int64)) &&& (2147483647 : Int64)) / (65536 : Int64)) - (((((1103515245 : Int64) * l2) + (12345 : Int64)) &&& (2147483647 : Int64)) / (65536 : Int64)) / (10 : Int64) * (10 : Int64)) (Int32.toInt64 (gI σ 48 0 2))) < 0 then Vv 22 0 9 [some (vR 16 0), some (vI l1), some (vL ((((1103515245 : Int64) * l2) + (12345 : Int64)) &&& (2147483647 : Int64))), none, some (vI (l4 ||| ((1 : Int32) <<< (l5 &&& 31)))), some (vI (l5 + 1))] [] σ else Vv 22 0 9 [some (vR 16 0), some (vI l1), some (vL ((((1103515245 : Int64) * l2) + (12345 : Int64)) &&& (2147483647 : Int64))), none, some (vI l4), some (vI (l5 + 1))] [] σ else some (some (vI l4), σ) :=
  U_at (fun pc => Nat.beq pc 9) 400 rfl
/-! Course.startAsTold -/
set_option maxRecDepth 100000 in
theorem c_Course_startAsTold (σ : St) (i0 : Nat) : Cc 23 0 [vR 24 i0] σ = Vv 23 0 2 [some (vR 24 i0), some (vI 0)] [] σ :=
  (Cc_eq _ _ _ _).trans (U_at (fun pc => Nat.beq pc 2) 400 rfl)
set_option maxRecDepth 100000 in
theorem v_Course_startAsTold_2 (σ : St) (l1 : Int32) (i0 : Nat) : Vv 23 0 2 [some (vR 24 i0), some (vI l1)] [] σ = if l1 < (gI σ 32 4 2) then ix 0 13 (fun k1 => cI (Cc 47 0 [vR 32 4, vI l1] σ) (fun x3 σ2 => ix l1 6 (fun k4 => Vv 23 0 2 [some (vR 24 i0), some (vI (l1 + 1))] [] (sI σ2 3289 (13 * i0 + k1) k4 x3)))) else some (none, σ) :=
  U_at (fun pc => Nat.beq pc 2) 400 rfl
/-! Course.startWith -/
set_option maxRecDepth 100000 in
theorem c_Course_startWith (σ : St) (a1 a2 : Int32) (i0 : Nat) : Cc 24 0 [vR 24 i0, vI a1, vI a2] σ = cI (Cc 47 0 [vR 32 4, vI a1] σ) (fun x2 σ1 => Vv 24 0 15 [some (vR 24 i0), some (vI a1), some (vI a2), some (vI x2), some (vI 0), none] [] σ1) :=
  (Cc_eq _ _ _ _).trans (U_at (fun pc => Nat.beq pc 15) 400 rfl)
set_option maxRecDepth 100000 in
theorem v_Course_startWith_15 (σ : St) (l1 l2 l3 l4 : Int32) (i0 : Nat) : Vv 24 0 15 [some (vR 24 i0), some (vI l1), some (vI l2), some (vI l3), some (vI l4), none] [] σ = if l4 < (gI σ 32 4 2) then cI (Cc 47 0 [vR 32 4, vI l4] σ) (fun x2 σ1 => ix 0 13 (fun k3 => if l4 = l1 then ix l4 6 (fun k4 => Vv 24 0 15 [some (vR 24 i0), some (vI l1), some (vI l2), some (vI l3), some (vI (l4 + 1)), none] [] (sI σ1 3289 (13 * i0 + k3) k4 l2)) else if x2 = l2 then ix l4 6 (fun k5 => Vv 24 0 15 [some (vR 24 i0), some (vI l1), some (vI l2), some (vI l3), some (vI (l4 + 1)), none] [] (sI σ1 3289 (13 * i0 + k3) k5 l3)) else ix l4 6 (fun k6 => Vv 24 0 15 [some (vR 24 i0), some (vI l1), some (vI l2), some (vI l3), some (vI (l4 + 1)), none] [] (sI σ1 3289 (13 * i0 + k3) k6 x2)))) else some (none, σ) :=
  U_at (fun pc => Nat.beq pc 15) 400 rfl
/-! Course.run -/
set_option maxRecDepth 100000 in
theorem c_Course_run (σ : St) (a1 a2 : Int32) (i0 : Nat) : Cc 25 0 [vR 24 i0, vI a1, vI a2] σ = Vv 25 0 2 [some (vR 24 i0), some (vI a1), some (vI a2), some (vI 0)] [] σ :=
  (Cc_eq _ _ _ _).trans (U_at (fun pc => Nat.beq pc 2) 400 rfl)
set_option maxRecDepth 100000 in
theorem v_Course_run_2 (σ : St) (l1 l2 l3 : Int32) (i0 : Nat) : Vv 25 0 2 [some (vR 24 i0), some (vI l1), some (vI l2), some (vI l3)] [] σ = if l3 < (gI σ 48 0 0) then if l3 < (12 : Int32) then cV (Cc 26 0 [vR 24 i0, vI l3] σ) (fun σ1 => if ((l2 >>> (l3 &&& 31)) &&& (1 : Int32)) = 0 then cV (Cc 27 0 [vR 24 i0, vI l3] σ1) (fun σ2 => Vv 25 0 2 [some (vR 24 i0), some (vI l1), some (vI l2), some (vI (l3 + 1))] [] σ2) else cV (Cc 28 0 [vR 24 i0, vI l3, vI l1] σ1) (fun σ3 => Vv 25 0 2 [some (vR 24 i0), some (vI l1), some (vI l2), some (vI (l3 + 1))] [] σ3)) else some (none, σ) else some (none, σ) :=
  U_at (fun pc => Nat.beq pc 2) 400 rfl
/-! Course.exchangeIn -/
set_option maxRecDepth 100000 in
theorem c_Course_exchangeIn (σ : St) (a1 : Int32) (i0 : Nat) : Cc 26 0 [vR 24 i0, vI a1] σ = cI (Cc 29 0 [vI a1] σ) (fun x2 σ1 => if x2 = 0 then some (none, σ1) else ix a1 13 (fun k3 => cV (Cc 5 0 [vR 0 0, vI a1, vR 3289 (13 * i0 + k3)] σ1) (fun σ4 => some (none, σ4)))) :=
  (Cc_eq _ _ _ _).trans (U_at (fun pc => false) 400 rfl)
/-! Course.stayOn -/
set_option maxRecDepth 100000 in
theorem c_Course_stayOn (σ : St) (a1 : Int32) (i0 : Nat) : Cc 27 0 [vR 24 i0, vI a1] σ = cI (Cc 29 0 [vI a1] σ) (fun x2 σ1 => if x2 = 0 then some (none, σ1) else cI (Cc 29 0 [vI (a1 + (1 : Int32))] σ1) (fun x4 σ3 => if x4 = 0 then some (none, σ3) else ix a1 13 (fun k5 => ix (a1 + (1 : Int32)) 13 (fun k6 => if 0 ≤ Int32.toInt 6 ∧ 0 ≤ Int32.toInt 0 ∧ 0 ≤ Int32.toInt 0 ∧ Int32.toInt 0 + Int32.toInt 6 ≤ ((6 : Nat) : Int) ∧ Int32.toInt 0 + Int32.toInt 6 ≤ ((6 : Nat) : Int) then some (none, cpI σ3 3289 (13 * i0 + k5) (Int32.toNatClampNeg 0) 3289 (13 * i0 + k6) (Int32.toNatClampNeg 0) (Int32.toNatClampNeg 6)) else none)))) :=
  (Cc_eq _ _ _ _).trans (U_at (fun pc => false) 400 rfl)
/-! Course.moveOn -/
set_option maxRecDepth 100000 in
theorem c_Course_moveOn (σ : St) (a1 a2 : Int32) (i0 : Nat) : Cc 28 0 [vR 24 i0, vI a1, vI a2] σ = cV (Cc 27 0 [vR 24 i0, vI a1] σ) (fun σ1 => cI (Cc 29 0 [vI (a1 + (1 : Int32))] σ1) (fun x3 σ2 => if x3 = 0 then some (none, σ2) else ix (a1 + (1 : Int32)) 13 (fun k4 => if Int32.toInt a2 = 0 then cI (Cc 51 0 [vR 32 4] σ2) (fun x6 σ5 => cI (Cc 51 0 [vR 32 0] σ5) (fun x8 σ7 => cV (Cc 30 0 [vR 24 i0, vR 3289 (13 * i0 + k4), vI x6, vI x8] σ7) (fun σ9 => some (none, σ9)))) else if Int32.toInt a2 = 0 + 1 then cV (Cc 31 0 [vR 24 i0, vR 3289 (13 * i0 + k4)] σ2) (fun σ10 => some (none, σ10)) else if Int32.toInt a2 = 0 + 1 + 1 then cV (Cc 32 0 [vR 24 i0, vR 3289 (13 * i0 + k4)] σ2) (fun σ11 => some (none, σ11)) else cI (Cc 33 0 [vR 24 i0, vR 3289 (13 * i0 + k4)] σ2) (fun x13 σ12 => cI (Cc 33 0 [vR 24 i0, vR 3289 (13 * i0 + k4)] σ12) (fun x15 σ14 => cI (Cc 34 0 [vR 24 i0, vR 3289 (13 * i0 + k4), vI x15] σ14) (fun x17 σ16 => cV (Cc 30 0 [vR 24 i0, vR 3289 (13 * i0 + k4), vI x13, vI x17] σ16) (fun σ18 => some (none, σ18)))))))) :=
  (Cc_eq _ _ _ _).trans (U_at (fun pc => false) 400 rfl)
/-! Course.isRowOfSpots -/
set_option maxRecDepth 100000 in
theorem c_Course_isRowOfSpots (σ : St) (a1 : Int32) : Cc 29 0 [vI a1] σ = if a1 < 0 then retZ 0 σ else if a1 ≤ (12 : Int32) then retZ 1 σ else retZ 0 σ :=
  (Cc_eq _ _ _ _).trans (U_at (fun pc => false) 400 rfl)
/-! Course.goOn -/
set_option maxRecDepth 100000 in
theorem c_Course_goOn (σ : St) (a2 a3 : Int32) (i0 i1 : Nat) : Cc 30 0 [vR 24 i0, vR 3289 i1, vI a2, vI a3] σ = Vv 30 0 3 [some (vR 24 i0), some (vR 3289 i1), some (vI a2), some (vI a3), some (vI 0)] [] σ :=
  (Cc_eq _ _ _ _).trans (U_at (fun pc => Nat.beq pc 3) 400 rfl)
set_option maxRecDepth 100000 in
theorem v_Course_goOn_3 (σ : St) (l2 l3 l4 : Int32) (i0 i1 : Nat) : Vv 30 0 3 [some (vR 24 i0), some (vR 3289 i1), some (vI l2), some (vI l3), some (vI l4)] [] σ = if l4 < (gI σ 32 4 2) then if ((l2 >>> (l4 &&& 31)) &&& (1 : Int32)) = 0 then Vv 30 0 3 [some (vR 24 i0), some (vR 3289 i1), some (vI l2), some (vI l3), some (vI (l4 + 1))] [] σ else ix l4 6 (fun k1 => cI (Cc 78 0 [vR 48 0, vI l3, vI (gI σ 3289 i1 k1)] σ) (fun x3 σ2 => ix l4 6 (fun k4 => Vv 30 0 3 [some (vR 24 i0), some (vR 3289 i1), some (vI l2), some (vI l3), some (vI (l4 + 1))] [] (sI σ2 3289 i1 k4 x3)))) else some (none, σ) :=
  U_at (fun pc => Nat.beq pc 3) 400 rfl
/-! Course.goBack -/
set_option maxRecDepth 100000 in
theorem c_Course_goBack (σ : St) (i0 i1 : Nat) : Cc 31 0 [vR 24 i0, vR 3289 i1] σ = Vv 31 0 2 [some (vR 24 i0), some (vR 3289 i1), some (vI 0)] [] σ :=
  (Cc_eq _ _ _ _).trans (U_at (fun pc => Nat.beq pc 2) 400 rfl)
set_option maxRecDepth 100000 in
theorem v_Course_goBack_2 (σ : St) (l2 : Int32) (i0 i1 : Nat) : Vv 31 0 2 [some (vR 24 i0), some (vR 3289 i1), some (vI l2)] [] σ = if l2 < (gI σ 32 4 2) then ix l2 6 (fun k1 => if (gI σ 3289 i1 k1) ≤ 0 then ix l2 6 (fun k2 => Vv 31 0 2 [some (vR 24 i0), some (vR 3289 i1), some (vI (l2 + 1))] [] (sI σ 3289 i1 k2 ((gI σ 32 0 2) - (1 : Int32)))) else ix l2 6 (fun k3 => ix l2 6 (fun k4 => Vv 31 0 2 [some (vR 24 i0), some (vR 3289 i1), some (vI (l2 + 1))] [] (sI σ 3289 i1 k4 ((gI σ 3289 i1 k3) - (1 : Int32)))))) else some (none, σ) :=
  U_at (fun pc => Nat.beq pc 2) 400 rfl
/-! Course.changeMostAndLeast -/
set_option maxRecDepth 100000 in
theorem c_Course_changeMostAndLeast (σ : St) (i0 i1 : Nat) : Cc 32 0 [vR 24 i0, vR 3289 i1] σ = Vv 32 0 4 [some (vR 24 i0), some (vR 3289 i1), some (vI (-1)), some (vI 0), none] [] σ :=
  (Cc_eq _ _ _ _).trans (U_at (fun pc => Nat.beq pc 4 || Nat.beq pc 59) 400 rfl)
set_option maxRecDepth 100000 in
theorem v_Course_changeMostAndLeast_4 (σ : St) (l2 l3 : Int32) (i0 i1 : Nat) : Vv 32 0 4 [some (vR 24 i0), some (vR 3289 i1), some (vI l2), some (vI l3), none] [] σ = if l3 < (gI σ 32 4 2) then if l2 = (-1 : Int32) then Vv 32 0 4 [some (vR 24 i0), some (vR 3289 i1), some (vI l3), some (vI (l3 + 1)), none] [] σ else ix l3 6 (fun k1 => cI (Cc 101 0 [vR 72 (i0 / 2), vI (gI σ 3289 i1 k1)] σ) (fun x3 σ2 => ix l2 6 (fun k4 => cI (Cc 101 0 [vR 72 (i0 / 2), vI (gI σ2 3289 i1 k4)] σ2) (fun x6 σ5 => if x3 ≤ x6 then Vv 32 0 4 [some (vR 24 i0), some (vR 3289 i1), some (vI l2), some (vI (l3 + 1)), none] [] σ5 else Vv 32 0 4 [some (vR 24 i0), some (vR 3289 i1), some (vI l3), some (vI (l3 + 1)), none] [] σ5)))) else Vv 32 0 59 [some (vR 24 i0), some (vR 3289 i1), some (vI l2), some (vI (-1)), some (vI 0)] [] σ :=
  U_at (fun pc => Nat.beq pc 4 || Nat.beq pc 59) 400 rfl
set_option maxRecDepth 100000 in
theorem v_Course_changeMostAndLeast_59 (σ : St) (l2 l3 l4 : Int32) (i0 i1 : Nat) : Vv 32 0 59 [some (vR 24 i0), some (vR 3289 i1), some (vI l2), some (vI l3), some (vI l4)] [] σ = if l4 < (gI σ 32 4 2) then if l4 = l2 then Vv 32 0 59 [some (vR 24 i0), some (vR 3289 i1), some (vI l2), some (vI l3), some (vI (l4 + 1))] [] σ else if l3 = (-1 : Int32) then Vv 32 0 59 [some (vR 24 i0), some (vR 3289 i1), some (vI l2), some (vI l4), some (vI (l4 + 1))] [] σ else ix l4 6 (fun k1 => cI (Cc 101 0 [vR 72 (i0 / 2), vI (gI σ 3289 i1 k1)] σ) (fun x3 σ2 => ix l3 6 (fun k4 => cI (Cc 101 0 [vR 72 (i0 / 2), vI (gI σ2 3289 i1 k4)] σ2) (fun x6 σ5 => if x3 < x6 then Vv 32 0 59 [some (vR 24 i0), some (vR 3289 i1), some (vI l2), some (vI l4), some (vI (l4 + 1))] [] σ5 else Vv 32 0 59 [some (vR 24 i0), some (vR 3289 i1), some (vI l2), some (vI l3), some (vI (l4 + 1))] [] σ5)))) else cV (Cc 6 0 [vR 3289 i1, vI l2, vI l3] σ) (fun σ7 => some (none, σ7)) :=
  U_at (fun pc => Nat.beq pc 4 || Nat.beq pc 59) 400 rfl
/-! Course.unhappy -/
set_option maxRecDepth 100000 in
theorem c_Course_unhappy (σ : St) (i0 i1 : Nat) : Cc 33 0 [vR 24 i0, vR 3289 i1] σ = Vv 33 0 4 [some (vR 24 i0), some (vR 3289 i1), some (vI 0), some (vI 0)] [] σ :=
  (Cc_eq _ _ _ _).trans (U_at (fun pc => Nat.beq pc 4) 400 rfl)
set_option maxRecDepth 100000 in
theorem v_Course_unhappy_4 (σ : St) (l2 l3 : Int32) (i0 i1 : Nat) : Vv 33 0 4 [some (vR 24 i0), some (vR 3289 i1), some (vI l2), some (vI l3)] [] σ = if l3 < (gI σ 32 4 2) then ix l3 6 (fun k1 => cI (Cc 48 0 [vR 32 4, vI l3] σ) (fun x3 σ2 => cI (Cc 102 0 [vR 72 (i0 / 2), vI (gI σ 3289 i1 k1), vI x3] σ2) (fun x5 σ4 => if x5 = 0 then Vv 33 0 4 [some (vR 24 i0), some (vR 3289 i1), some (vI (l2 ||| ((1 : Int32) <<< (l3 &&& 31)))), some (vI (l3 + 1))] [] σ4 else Vv 33 0 4 [some (vR 24 i0), some (vR 3289 i1), some (vI l2), some (vI (l3 + 1))] [] σ4))) else some (some (vI l2), σ) :=
  U_at (fun pc => Nat.beq pc 4) 400 rfl
/-! Course.placesOf -/
set_option maxRecDepth 100000 in
theorem c_Course_placesOf (σ : St) (a2 : Int32) (i0 i1 : Nat) : Cc 34 0 [vR 24 i0, vR 3289 i1, vI a2] σ = Vv 34 0 5 [some (vR 24 i0), some (vR 3289 i1), some (vI a2), some (vI 0), some (vI 0)] [] σ :=
  (Cc_eq _ _ _ _).trans (U_at (fun pc => Nat.beq pc 5) 400 rfl)
set_option maxRecDepth 100000 in
theorem v_Course_placesOf_5 (σ : St) (l2 l3 l4 : Int32) (i0 i1 : Nat) : Vv 34 0 5 [some (vR 24 i0), some (vR 3289 i1), some (vI l2), some (vI l3), some (vI l4)] [] σ = if l4 < (gI σ 32 4 2) then if ((l2 >>> (l4 &&& 31)) &&& (1 : Int32)) = 0 then Vv 34 0 5 [some (vR 24 i0), some (vR 3289 i1), some (vI l2), some (vI l3), some (vI (l4 + 1))] [] σ else ix l4 6 (fun k1 => Vv 34 0 5 [some (vR 24 i0), some (vR 3289 i1), some (vI l2), some (vI (l3 ||| ((1 : Int32) <<< ((gI σ 3289 i1 k1) &&& 31)))), some (vI (l4 + 1))] [] σ) else some (some (vI l3), σ) :=
  U_at (fun pc => Nat.beq pc 5) 400 rfl
/-! Course.spot -/
set_option maxRecDepth 100000 in
theorem c_Course_spot (σ : St) (a1 a2 : Int32) (i0 : Nat) : Cc 35 0 [vR 24 i0, vI a1, vI a2] σ = if a2 < 0 then if (0 : Int32) = 0 then some (some (vI 0), σ) else ix a2 13 (fun k1 => ix a1 6 (fun k2 => some (some (vI (gI σ 3289 (13 * i0 + k1) k2)), σ))) else if a2 ≤ (12 : Int32) then if a1 < 0 then if (0 : Int32) = 0 then some (some (vI 0), σ) else ix a2 13 (fun k3 => ix a1 6 (fun k4 => some (some (vI (gI σ 3289 (13 * i0 + k3) k4)), σ))) else if a1 < (6 : Int32) then if (1 : Int32) = 0 then some (some (vI 0), σ) else ix a2 13 (fun k5 => ix a1 6 (fun k6 => some (some (vI (gI σ 3289 (13 * i0 + k5) k6)), σ))) else if (0 : Int32) = 0 then some (some (vI 0), σ) else ix a2 13 (fun k7 => ix a1 6 (fun k8 => some (some (vI (gI σ 3289 (13 * i0 + k7) k8)), σ))) else if (0 : Int32) = 0 then some (some (vI 0), σ) else ix a2 13 (fun k9 => ix a1 6 (fun k10 => some (some (vI (gI σ 3289 (13 * i0 + k9) k10)), σ))) :=
  (Cc_eq _ _ _ _).trans (U_at (fun pc => false) 400 rfl)
/-! Course.isAlike -/
set_option maxRecDepth 100000 in
theorem c_Course_isAlike (σ : St) (a1 a2 : Int32) (i0 : Nat) : Cc 36 0 [vR 24 i0, vI a1, vI a2] σ = Vv 36 0 2 [some (vR 24 i0), some (vI a1), some (vI a2), some (vI 0)] [] σ :=
  (Cc_eq _ _ _ _).trans (U_at (fun pc => Nat.beq pc 2) 400 rfl)
set_option maxRecDepth 100000 in
theorem v_Course_isAlike_2 (σ : St) (l1 l2 l3 : Int32) (i0 : Nat) : Vv 36 0 2 [some (vR 24 i0), some (vI l1), some (vI l2), some (vI l3)] [] σ = if l3 < (gI σ 32 4 2) then cI (Cc 35 0 [vR 24 i0, vI l3, vI l1] σ) (fun x2 σ1 => cI (Cc 35 0 [vR 24 i0, vI l3, vI l2] σ1) (fun x4 σ3 => if x2 = x4 then Vv 36 0 2 [some (vR 24 i0), some (vI l1), some (vI l2), some (vI (l3 + 1))] [] σ3 else retZ 0 σ3)) else retZ 1 σ :=
  U_at (fun pc => Nat.beq pc 2) 400 rfl
/-! Course.marksSeen -/
set_option maxRecDepth 100000 in
theorem c_Course_marksSeen (σ : St) (a1 a2 : Int32) (i0 : Nat) : Cc 37 0 [vR 24 i0, vI a1, vI a2] σ = cI (Cc 35 0 [vR 24 i0, vI a1, vI a2] σ) (fun x2 σ1 => cI (Cc 100 0 [vR 72 (i0 / 2), vI x2] σ1) (fun x4 σ3 => some (some (vI x4), σ3))) :=
  (Cc_eq _ _ _ _).trans (U_at (fun pc => false) 400 rfl)
/-! Course.seesHope -/
set_option maxRecDepth 100000 in
theorem c_Course_seesHope (σ : St) (a1 a2 : Int32) (i0 : Nat) : Cc 38 0 [vR 24 i0, vI a1, vI a2] σ = cI (Cc 35 0 [vR 24 i0, vI a1, vI a2] σ) (fun x2 σ1 => cI (Cc 48 0 [vR 32 4, vI a1] σ1) (fun x4 σ3 => cI (Cc 102 0 [vR 72 (i0 / 2), vI x2, vI x4] σ3) (fun x6 σ5 => retZ x6 σ5))) :=
  (Cc_eq _ _ _ _).trans (U_at (fun pc => false) 400 rfl)
/-! Course.firstGladYear -/
set_option maxRecDepth 100000 in
theorem c_Course_firstGladYear (σ : St) (a1 : Int32) (i0 : Nat) : Cc 39 0 [vR 24 i0, vI a1] σ = Vv 39 0 2 [some (vR 24 i0), some (vI a1), some (vI 0)] [] σ :=
  (Cc_eq _ _ _ _).trans (U_at (fun pc => Nat.beq pc 2) 400 rfl)
set_option maxRecDepth 100000 in
theorem v_Course_firstGladYear_2 (σ : St) (l1 l2 : Int32) (i0 : Nat) : Vv 39 0 2 [some (vR 24 i0), some (vI l1), some (vI l2)] [] σ = if l2 ≤ (gI σ 48 0 0) then cI (Cc 38 0 [vR 24 i0, vI l1, vI l2] σ) (fun x2 σ1 => if x2 = 0 then Vv 39 0 2 [some (vR 24 i0), some (vI l1), some (vI (l2 + 1))] [] σ1 else some (some (vI l2), σ1)) else some (some (vI (-1)), σ) :=
  U_at (fun pc => Nat.beq pc 2) 400 rfl
/-! Course.joyIn -/
set_option maxRecDepth 100000 in
theorem c_Course_joyIn (σ : St) (a1 a2 : Int32) (i0 : Nat) : Cc 40 0 [vR 24 i0, vI a1, vI a2] σ = if a2 ≤ 0 then cI (Cc 37 0 [vR 24 i0, vI a1, vI a2] σ) (fun x2 σ1 => cI (Cc 76 0 [vR 48 0, vI (x2 &&& ((0 : Int32) ^^^ (-1 : Int32)))] σ1) (fun x4 σ3 => some (some (vI x4), σ3))) else cI (Cc 37 0 [vR 24 i0, vI a1, vI (a2 - (1 : Int32))] σ) (fun x6 σ5 => cI (Cc 37 0 [vR 24 i0, vI a1, vI a2] σ5) (fun x8 σ7 => cI (Cc 76 0 [vR 48 0, vI (x8 &&& (x6 ^^^ (-1 : Int32)))] σ7) (fun x10 σ9 => some (some (vI x10), σ9)))) :=
  (Cc_eq _ _ _ _).trans (U_at (fun pc => false) 400 rfl)
/-! Course.joyOfLife -/
set_option maxRecDepth 100000 in
theorem c_Course_joyOfLife (σ : St) (a1 : Int32) (i0 : Nat) : Cc 41 0 [vR 24 i0, vI a1] σ = Vv 41 0 4 [some (vR 24 i0), some (vI a1), some (vI 0), some (vI 0)] [] σ :=
  (Cc_eq _ _ _ _).trans (U_at (fun pc => Nat.beq pc 4) 400 rfl)
set_option maxRecDepth 100000 in
theorem v_Course_joyOfLife_4 (σ : St) (l1 l2 l3 : Int32) (i0 : Nat) : Vv 41 0 4 [some (vR 24 i0), some (vI l1), some (vI l2), some (vI l3)] [] σ = if l3 ≤ (gI σ 48 0 0) then cI (Cc 40 0 [vR 24 i0, vI l1, vI l3] σ) (fun x2 σ1 => Vv 41 0 4 [some (vR 24 i0), some (vI l1), some (vI (l2 + x2)), some (vI (l3 + 1))] [] σ1) else some (some (vI l2), σ) :=
  U_at (fun pc => Nat.beq pc 4) 400 rfl
/-! Course.joyOfAllIn -/
set_option maxRecDepth 100000 in
theorem c_Course_joyOfAllIn (σ : St) (a1 : Int32) (i0 : Nat) : Cc 42 0 [vR 24 i0, vI a1] σ = Vv 42 0 4 [some (vR 24 i0), some (vI a1), some (vI 0), some (vI 0)] [] σ :=
  (Cc_eq _ _ _ _).trans (U_at (fun pc => Nat.beq pc 4) 400 rfl)
set_option maxRecDepth 100000 in
theorem v_Course_joyOfAllIn_4 (σ : St) (l1 l2 l3 : Int32) (i0 : Nat) : Vv 42 0 4 [some (vR 24 i0), some (vI l1), some (vI l2), some (vI l3)] [] σ = if l3 < (gI σ 32 4 2) then cI (Cc 40 0 [vR 24 i0, vI l3, vI l1] σ) (fun x2 σ1 => Vv 42 0 4 [some (vR 24 i0), some (vI l1), some (vI (l2 + x2)), some (vI (l3 + 1))] [] σ1) else some (some (vI l2), σ) :=
  U_at (fun pc => Nat.beq pc 4) 400 rfl
/-! Course.joyOfAll -/
set_option maxRecDepth 100000 in
theorem c_Course_joyOfAll (σ : St) (i0 : Nat) : Cc 43 0 [vR 24 i0] σ = Vv 43 0 4 [some (vR 24 i0), some (vI 0), some (vI 0)] [] σ :=
  (Cc_eq _ _ _ _).trans (U_at (fun pc => Nat.beq pc 4) 400 rfl)
set_option maxRecDepth 100000 in
theorem v_Course_joyOfAll_4 (σ : St) (l1 l2 : Int32) (i0 : Nat) : Vv 43 0 4 [some (vR 24 i0), some (vI l1), some (vI l2)] [] σ = if l2 < (gI σ 32 4 2) then cI (Cc 41 0 [vR 24 i0, vI l2] σ) (fun x2 σ1 => Vv 43 0 4 [some (vR 24 i0), some (vI (l1 + x2)), some (vI (l2 + 1))] [] σ1) else some (some (vI l1), σ) :=
  U_at (fun pc => Nat.beq pc 4) 400 rfl
/-! Pairs.has -/
set_option maxRecDepth 100000 in
theorem c_Pairs_has (σ : St) (a1 : Int32) (i0 : Nat) : Cc 44 0 [vR 32 i0, vI a1] σ = if a1 < 0 then retZ 0 σ else if a1 < (gI σ 32 i0 2) then retZ 1 σ else retZ 0 σ :=
  (Cc_eq _ _ _ _).trans (U_at (fun pc => false) 400 rfl)
/-! Pairs.isFull -/
set_option maxRecDepth 100000 in
theorem c_Pairs_isFull (σ : St) (i0 : Nat) : Cc 45 0 [vR 32 i0] σ = if (gI σ 32 i0 2) < (Int32.ofNat (pln (i0 % 5))) then retZ 0 σ else retZ 1 σ :=
  (Cc_eq _ _ _ _).trans (U_at (fun pc => false) 400 rfl)
/-! Pairs.add -/
set_option maxRecDepth 100000 in
theorem c_Pairs_add (σ : St) (a1 a2 : Int32) (i0 : Nat) : Cc 46 0 [vR 32 i0, vI a1, vI a2] σ = cI (Cc 45 0 [vR 32 i0] σ) (fun x2 σ1 => if x2 = 0 then ix (gI σ1 32 i0 2) (pln (i0 % 5)) (fun k3 => ix (gI (sI σ1 105 i0 k3 a1) 32 i0 2) (pln (i0 % 5)) (fun k4 => some (none, sI (sI (sI σ1 105 i0 k3 a1) 113 i0 k4 a2) 32 i0 2 ((gI (sI (sI σ1 105 i0 k3 a1) 113 i0 k4 a2) 32 i0 2) + (1 : Int32))))) else some (none, σ1)) :=
  (Cc_eq _ _ _ _).trans (U_at (fun pc => false) 400 rfl)
/-! Pairs.one -/
set_option maxRecDepth 100000 in
theorem c_Pairs_one (σ : St) (a1 : Int32) (i0 : Nat) : Cc 47 0 [vR 32 i0, vI a1] σ = if a1 < 0 then some (some (vI 0), σ) else if a1 < (gI σ 32 i0 2) then ix a1 (pln (i0 % 5)) (fun k1 => some (some (vI (gI σ 105 i0 k1)), σ)) else some (some (vI 0), σ) :=
  (Cc_eq _ _ _ _).trans (U_at (fun pc => false) 400 rfl)
/-! Pairs.other -/
set_option maxRecDepth 100000 in
theorem c_Pairs_other (σ : St) (a1 : Int32) (i0 : Nat) : Cc 48 0 [vR 32 i0, vI a1] σ = if a1 < 0 then some (some (vI 0), σ) else if a1 < (gI σ 32 i0 2) then ix a1 (pln (i0 % 5)) (fun k1 => some (some (vI (gI σ 113 i0 k1)), σ)) else some (some (vI 0), σ) :=
  (Cc_eq _ _ _ _).trans (U_at (fun pc => false) 400 rfl)
/-! Pairs.hasPair -/
set_option maxRecDepth 100000 in
theorem c_Pairs_hasPair (σ : St) (a1 a2 : Int32) (i0 : Nat) : Cc 49 0 [vR 32 i0, vI a1, vI a2] σ = Vv 49 0 2 [some (vR 32 i0), some (vI a1), some (vI a2), some (vI 0)] [] σ :=
  (Cc_eq _ _ _ _).trans (U_at (fun pc => Nat.beq pc 2) 400 rfl)
set_option maxRecDepth 100000 in
theorem v_Pairs_hasPair_2 (σ : St) (l1 l2 l3 : Int32) (i0 : Nat) : Vv 49 0 2 [some (vR 32 i0), some (vI l1), some (vI l2), some (vI l3)] [] σ = if l3 < (gI σ 32 i0 2) then ix l3 (pln (i0 % 5)) (fun k1 => if (gI σ 105 i0 k1) = l1 then ix l3 (pln (i0 % 5)) (fun k2 => if (gI σ 113 i0 k2) = l2 then retZ 1 σ else Vv 49 0 2 [some (vR 32 i0), some (vI l1), some (vI l2), some (vI (l3 + 1))] [] σ) else Vv 49 0 2 [some (vR 32 i0), some (vI l1), some (vI l2), some (vI (l3 + 1))] [] σ) else retZ 0 σ :=
  U_at (fun pc => Nat.beq pc 2) 400 rfl
/-! Pairs.hasOne -/
set_option maxRecDepth 100000 in
theorem c_Pairs_hasOne (σ : St) (a1 : Int32) (i0 : Nat) : Cc 50 0 [vR 32 i0, vI a1] σ = Vv 50 0 2 [some (vR 32 i0), some (vI a1), some (vI 0)] [] σ :=
  (Cc_eq _ _ _ _).trans (U_at (fun pc => Nat.beq pc 2) 400 rfl)
set_option maxRecDepth 100000 in
theorem v_Pairs_hasOne_2 (σ : St) (l1 l2 : Int32) (i0 : Nat) : Vv 50 0 2 [some (vR 32 i0), some (vI l1), some (vI l2)] [] σ = if l2 < (gI σ 32 i0 2) then ix l2 (pln (i0 % 5)) (fun k1 => if (gI σ 105 i0 k1) = l1 then retZ 1 σ else Vv 50 0 2 [some (vR 32 i0), some (vI l1), some (vI (l2 + 1))] [] σ) else retZ 0 σ :=
  U_at (fun pc => Nat.beq pc 2) 400 rfl
/-! Pairs.allBits -/
set_option maxRecDepth 100000 in
theorem c_Pairs_allBits (σ : St) (i0 : Nat) : Cc 51 0 [vR 32 i0] σ = some (some (vI (((1 : Int32) <<< ((gI σ 32 i0 2) &&& 31)) - (1 : Int32))), σ) :=
  (Cc_eq _ _ _ _).trans (U_at (fun pc => false) 400 rfl)
/-! Pairs.copyFrom -/
set_option maxRecDepth 100000 in
theorem c_Pairs_copyFrom (σ : St) (i0 i1 : Nat) : Cc 52 0 [vR 32 i0, vR 32 i1] σ = Vv 52 0 7 [some (vR 32 i0), some (vR 32 i1), some (vI 0)] [] (sI σ 32 i0 2 0) :=
  (Cc_eq _ _ _ _).trans (U_at (fun pc => Nat.beq pc 7) 400 rfl)
set_option maxRecDepth 100000 in
theorem v_Pairs_copyFrom_7 (σ : St) (l2 : Int32) (i0 i1 : Nat) : Vv 52 0 7 [some (vR 32 i0), some (vR 32 i1), some (vI l2)] [] σ = if l2 < (gI σ 32 i1 2) then ix l2 (pln (i1 % 5)) (fun k1 => ix l2 (pln (i1 % 5)) (fun k2 => cV (Cc 46 0 [vR 32 i0, vI (gI σ 105 i1 k1), vI (gI σ 113 i1 k2)] σ) (fun σ3 => Vv 52 0 7 [some (vR 32 i0), some (vR 32 i1), some (vI (l2 + 1))] [] σ3))) else some (none, σ) :=
  U_at (fun pc => Nat.beq pc 7) 400 rfl
/-! Reader.append -/
set_option maxRecDepth 100000 in
theorem c_Reader_append (σ : St) (a1 : Int32) : Cc 53 0 [vR 40 0, vI a1] σ = Vv 53 0 3 [some (vR 40 0), some (vI a1), some (vI 24)] [] σ :=
  (Cc_eq _ _ _ _).trans (U_at (fun pc => Nat.beq pc 3) 400 rfl)
set_option maxRecDepth 100000 in
theorem v_Reader_append_3 (σ : St) (l1 l2 : Int32) : Vv 53 0 3 [some (vR 40 0), some (vI l1), some (vI l2)] [] σ = if l2 < 0 then some (none, σ) else if (gI σ 40 0 2) < (700 : Int32) then ix (gI σ 40 0 2) 700 (fun k1 => Vv 53 0 3 [some (vR 40 0), some (vI l1), some (vI (l2 + (-8)))] [] (sI (sI σ 358555 0 k1 (Int32.toInt8 ((Int32.toInt8 (l1 >>> (l2 &&& 31))).toInt32)).toInt32) 40 0 2 ((gI (sI σ 358555 0 k1 (Int32.toInt8 ((Int32.toInt8 (l1 >>> (l2 &&& 31))).toInt32)).toInt32) 40 0 2) + (1 : Int32)))) else some (none, σ) :=
  U_at (fun pc => Nat.beq pc 3) 400 rfl
/-! Reader.readRoof -/
set_option maxRecDepth 100000 in
theorem c_Reader_readRoof (σ : St) : Cc 54 0 [vR 40 0] σ = cV (Cc 79 0 [vR 48 1] σ) (fun σ1 => cV (Cc 68 0 [vR 40 0] (sI (sI (sI σ1 40 0 8 0) 40 0 9 (-1)) 40 0 5 0)) (fun σ2 => Vv 54 0 30 [some (vR 40 0), some (vI 1), some (vI 0)] [] σ2)) :=
  (Cc_eq _ _ _ _).trans (U_at (fun pc => Nat.beq pc 30) 400 rfl)
set_option maxRecDepth 100000 in
theorem v_Reader_readRoof_30 (σ : St) (l1 l2 : Int32) : Vv 54 0 30 [some (vR 40 0), some (vI l1), some (vI l2)] [] σ = if l2 < (700 : Int32) then if l1 = 0 then retZ l1 σ else if (gI σ 40 0 3) = 0 then retZ l1 σ else cI (Cc 55 0 [vR 40 0] σ) (fun x2 σ1 => if x2 = 0 then Vv 54 0 30 [some (vR 40 0), some (vI 0), some (vI (l2 + 1))] [] (sI σ1 48 1 3 ((gI σ1 48 1 3) + (1 : Int32))) else cI (Cc 63 0 [vR 40 0] σ1) (fun x4 σ3 => if x4 = 0 then Vv 54 0 30 [some (vR 40 0), some (vI 0), some (vI (l2 + 1))] [] (sI σ3 48 1 3 ((gI σ3 48 1 3) + (1 : Int32))) else Vv 54 0 30 [some (vR 40 0), some (vI 1), some (vI (l2 + 1))] [] (sI σ3 48 1 3 ((gI σ3 48 1 3) + (1 : Int32))))) else retZ l1 σ :=
  U_at (fun pc => Nat.beq pc 30) 400 rfl
/-! Reader.readLine -/
set_option maxRecDepth 100000 in
theorem c_Reader_readLine (σ : St) : Cc 55 0 [vR 40 0] σ = if (gI σ 48 1 3) = 0 then cI (Cc 56 0 [vR 40 0] σ) (fun x2 σ1 => retZ x2 σ1) else cI (Cc 66 0 [vR 40 0, vR 494 7] σ) (fun x4 σ3 => if x4 = 0 then cI (Cc 66 0 [vR 40 0, vR 494 5] σ3) (fun x6 σ5 => if x6 = 0 then cI (Cc 66 0 [vR 40 0, vR 494 1] σ5) (fun x8 σ7 => if x8 = 0 then cI (Cc 66 0 [vR 40 0, vR 494 9] σ7) (fun x10 σ9 => if x10 = 0 then cI (Cc 66 0 [vR 40 0, vR 494 4] σ9) (fun x12 σ11 => if x12 = 0 then cI (Cc 65 0 [vR 40 0, vI 1, vI (gI σ11 40 0 4)] σ11) (fun x14 σ13 => retZ x14 σ13) else cI (Cc 60 0 [vR 40 0] σ11) (fun x16 σ15 => retZ x16 σ15)) else cI (Cc 59 0 [vR 40 0] σ9) (fun x18 σ17 => retZ x18 σ17)) else cI (Cc 57 0 [vR 40 0, vR 32 7] σ7) (fun x20 σ19 => retZ x20 σ19)) else cI (Cc 57 0 [vR 40 0, vR 32 6] σ5) (fun x22 σ21 => if x22 = 0 then retZ 0 σ21 else cI (Cc 58 0 [vR 40 0] σ21) (fun x24 σ23 => if x24 = 0 then retZ 0 σ23 else retZ 1 σ23))) else cI (Cc 57 0 [vR 40 0, vR 32 5] σ3) (fun x26 σ25 => retZ x26 σ25)) :=
  (Cc_eq _ _ _ _).trans (U_at (fun pc => false) 400 rfl)
/-! Reader.readRoofLine -/
set_option maxRecDepth 100000 in
theorem c_Reader_readRoofLine (σ : St) : Cc 56 0 [vR 40 0] σ = cI (Cc 62 0 [vR 40 0, vR 494 8] σ) (fun x2 σ1 => if x2 = 0 then retZ 0 σ1 else cI (Cc 62 0 [vR 40 0, vR 494 11] σ1) (fun x4 σ3 => if x4 = 0 then retZ 0 σ3 else cI (Cc 64 0 [vR 40 0, vI 1, vI 12] σ3) (fun x6 σ5 => if x6 = 0 then retZ 0 σ5 else cI (Cc 62 0 [vR 40 0, vR 494 3] (sI σ5 48 1 0 (gI σ5 40 0 6))) (fun x8 σ7 => if x8 = 0 then retZ 0 σ7 else cI (Cc 64 0 [vR 40 0, vI 0, vI 3] σ7) (fun x10 σ9 => if x10 = 0 then retZ 0 σ9 else cI (Cc 62 0 [vR 40 0, vR 494 6] (sI σ9 48 1 1 (gI σ9 40 0 6))) (fun x12 σ11 => if x12 = 0 then retZ 0 σ11 else cI (Cc 64 0 [vR 40 0, vI 0, vI 10] σ11) (fun x14 σ13 => if x14 = 0 then retZ 0 σ13 else retZ 1 (sI σ13 48 1 2 (gI σ13 40 0 6))))))))) :=
  (Cc_eq _ _ _ _).trans (U_at (fun pc => false) 400 rfl)
/-! Reader.readPoint -/
set_option maxRecDepth 100000 in
theorem c_Reader_readPoint (σ : St) (i1 : Nat) : Cc 57 0 [vR 40 0, vR 32 i1] σ = cI (Cc 61 0 [vR 40 0, vR 32 i1] σ) (fun x2 σ1 => if x2 = 0 then retZ 0 σ1 else cI (Cc 64 0 [vR 40 0, vI 0, vI 30] σ1) (fun x4 σ3 => if x4 = 0 then retZ 0 σ3 else cI (Cc 64 0 [vR 40 0, vI 0, vI 30] σ3) (fun x6 σ5 => if x6 = 0 then retZ 0 σ5 else cI (Cc 72 0 [vR 48 1, vI (gI σ3 40 0 6), vI (gI σ5 40 0 6)] σ5) (fun x8 σ7 => if x8 = 0 then cV (Cc 46 0 [vR 32 i1, vI (gI σ3 40 0 6), vI (gI σ7 40 0 6)] σ7) (fun σ9 => retZ 1 σ9) else cI (Cc 65 0 [vR 40 0, vI 2, vI (gI σ7 40 0 7)] σ7) (fun x11 σ10 => retZ x11 σ10))))) :=
  (Cc_eq _ _ _ _).trans (U_at (fun pc => false) 400 rfl)
/-! Reader.readWorth -/
set_option maxRecDepth 100000 in
theorem c_Reader_readWorth (σ : St) : Cc 58 0 [vR 40 0] σ = cI (Cc 62 0 [vR 40 0, vR 494 10] σ) (fun x2 σ1 => if x2 = 0 then retZ 0 σ1 else cI (Cc 64 0 [vR 40 0, vI 0, vI 99] σ1) (fun x4 σ3 => if x4 = 0 then retZ 0 σ3 else cV (Cc 75 0 [vR 48 1, vI ((gI σ3 32 6 2) - (1 : Int32)), vI (gI σ3 40 0 6)] σ3) (fun σ5 => retZ 1 σ5))) :=
  (Cc_eq _ _ _ _).trans (U_at (fun pc => false) 400 rfl)
/-! Reader.readWay -/
set_option maxRecDepth 100000 in
theorem c_Reader_readWay (σ : St) : Cc 59 0 [vR 40 0] σ = cI (Cc 61 0 [vR 40 0, vR 32 8] σ) (fun x2 σ1 => if x2 = 0 then retZ 0 σ1 else cI (Cc 64 0 [vR 40 0, vI 0, vI ((gI σ1 32 5 2) - (1 : Int32))] σ1) (fun x4 σ3 => if x4 = 0 then retZ 0 σ3 else cI (Cc 64 0 [vR 40 0, vI 0, vI ((gI σ3 32 5 2) - (1 : Int32))] σ3) (fun x6 σ5 => if x6 = 0 then retZ 0 σ5 else if (gI σ5 40 0 6) = (gI σ3 40 0 6) then cI (Cc 65 0 [vR 40 0, vI 2, vI (gI σ5 40 0 7)] σ5) (fun x8 σ7 => retZ x8 σ7) else cV (Cc 46 0 [vR 32 8, vI (gI σ3 40 0 6), vI (gI σ5 40 0 6)] σ5) (fun σ9 => retZ 1 σ9)))) :=
  (Cc_eq _ _ _ _).trans (U_at (fun pc => false) 400 rfl)
/-! Reader.readLooker -/
set_option maxRecDepth 100000 in
theorem c_Reader_readLooker (σ : St) : Cc 60 0 [vR 40 0] σ = cI (Cc 61 0 [vR 40 0, vR 32 9] σ) (fun x2 σ1 => if x2 = 0 then retZ 0 σ1 else cI (Cc 62 0 [vR 40 0, vR 494 0] σ1) (fun x4 σ3 => if x4 = 0 then retZ 0 σ3 else cI (Cc 64 0 [vR 40 0, vI 0, vI ((gI σ3 32 5 2) - (1 : Int32))] σ3) (fun x6 σ5 => if x6 = 0 then retZ 0 σ5 else cI (Cc 50 0 [vR 32 9, vI (gI σ5 40 0 6)] σ5) (fun x8 σ7 => if x8 = 0 then cI (Cc 62 0 [vR 40 0, vR 494 2] σ7) (fun x10 σ9 => if x10 = 0 then retZ 0 σ9 else cI (Cc 64 0 [vR 40 0, vI 0, vI ((gI σ9 32 6 2) - (1 : Int32))] σ9) (fun x12 σ11 => if x12 = 0 then retZ 0 σ11 else cV (Cc 46 0 [vR 32 9, vI (gI σ5 40 0 6), vI (gI σ11 40 0 6)] σ11) (fun σ13 => retZ 1 σ13))) else cI (Cc 65 0 [vR 40 0, vI 2, vI (gI σ7 40 0 7)] σ7) (fun x15 σ14 => retZ x15 σ14))))) :=
  (Cc_eq _ _ _ _).trans (U_at (fun pc => false) 400 rfl)
/-! Reader.takeHead -/
set_option maxRecDepth 100000 in
theorem c_Reader_takeHead (σ : St) (i1 : Nat) : Cc 61 0 [vR 40 0, vR 32 i1] σ = cI (Cc 45 0 [vR 32 i1] σ) (fun x2 σ1 => if x2 = 0 then cV (Cc 68 0 [vR 40 0] σ1) (fun σ3 => retZ 1 σ3) else cI (Cc 65 0 [vR 40 0, vI 3, vI (gI σ1 40 0 4)] σ1) (fun x5 σ4 => retZ x5 σ4)) :=
  (Cc_eq _ _ _ _).trans (U_at (fun pc => false) 400 rfl)
/-! Reader.takeWord -/
set_option maxRecDepth 100000 in
theorem c_Reader_takeWord (σ : St) (i1 : Nat) : Cc 62 0 [vR 40 0, vR 494 i1] σ = cI (Cc 66 0 [vR 40 0, vR 494 i1] σ) (fun x2 σ1 => if x2 = 0 then cI (Cc 65 0 [vR 40 0, vI 1, vI (gI σ1 40 0 4)] σ1) (fun x4 σ3 => retZ x4 σ3) else cV (Cc 68 0 [vR 40 0] σ1) (fun σ5 => retZ 1 σ5)) :=
  (Cc_eq _ _ _ _).trans (U_at (fun pc => false) 400 rfl)
/-! Reader.takeSign -/
set_option maxRecDepth 100000 in
theorem c_Reader_takeSign (σ : St) : Cc 63 0 [vR 40 0] σ = if (gI σ 40 0 3) = (3 : Int32) then cV (Cc 68 0 [vR 40 0] σ) (fun σ1 => retZ 1 σ1) else cI (Cc 65 0 [vR 40 0, vI 1, vI (gI σ 40 0 4)] σ) (fun x3 σ2 => retZ x3 σ2) :=
  (Cc_eq _ _ _ _).trans (U_at (fun pc => false) 400 rfl)
/-! Reader.takeNumber -/
set_option maxRecDepth 100000 in
theorem c_Reader_takeNumber (σ : St) (a1 a2 : Int32) : Cc 64 0 [vR 40 0, vI a1, vI a2] σ = if (gI σ 40 0 3) = (2 : Int32) then cI (Cc 67 0 [vR 40 0] σ) (fun x2 σ1 => if (gI (sI (sI σ1 40 0 6 x2) 40 0 7 (gI (sI σ1 40 0 6 x2) 40 0 4)) 40 0 6) < a1 then cI (Cc 65 0 [vR 40 0, vI 2, vI (gI (sI (sI σ1 40 0 6 x2) 40 0 7 (gI (sI σ1 40 0 6 x2) 40 0 4)) 40 0 4)] (sI (sI σ1 40 0 6 x2) 40 0 7 (gI (sI σ1 40 0 6 x2) 40 0 4))) (fun x4 σ3 => retZ x4 σ3) else if (gI (sI (sI σ1 40 0 6 x2) 40 0 7 (gI (sI σ1 40 0 6 x2) 40 0 4)) 40 0 6) ≤ a2 then cV (Cc 68 0 [vR 40 0] (sI (sI σ1 40 0 6 x2) 40 0 7 (gI (sI σ1 40 0 6 x2) 40 0 4))) (fun σ5 => retZ 1 σ5) else cI (Cc 65 0 [vR 40 0, vI 2, vI (gI (sI (sI σ1 40 0 6 x2) 40 0 7 (gI (sI σ1 40 0 6 x2) 40 0 4)) 40 0 4)] (sI (sI σ1 40 0 6 x2) 40 0 7 (gI (sI σ1 40 0 6 x2) 40 0 4))) (fun x7 σ6 => retZ x7 σ6)) else cI (Cc 65 0 [vR 40 0, vI 1, vI (gI σ 40 0 4)] σ) (fun x9 σ8 => retZ x9 σ8) :=
  (Cc_eq _ _ _ _).trans (U_at (fun pc => false) 400 rfl)
/-! Reader.refuse -/
set_option maxRecDepth 100000 in
theorem c_Reader_refuse (σ : St) (a1 a2 : Int32) : Cc 65 0 [vR 40 0, vI a1, vI a2] σ = retZ 0 (sI (sI σ 40 0 8 a1) 40 0 9 a2) :=
  (Cc_eq _ _ _ _).trans (U_at (fun pc => false) 400 rfl)
/-! Reader.isWord -/
set_option maxRecDepth 100000 in
theorem c_Reader_isWord (σ : St) (i1 : Nat) : Cc 66 0 [vR 40 0, vR 494 i1] σ = if (gI σ 40 0 3) = (1 : Int32) then if ((gI σ 40 0 5) - (gI σ 40 0 4)) = (Int32.ofNat (slen i1)) then if (gI σ 40 0 5) ≤ (700 : Int32) then Vv 66 0 41 [some (vR 40 0), some (vR 494 i1), some (vI (gI σ 40 0 4))] [] σ else retZ 0 σ else retZ 0 σ else retZ 0 σ :=
  (Cc_eq _ _ _ _).trans (U_at (fun pc => Nat.beq pc 41) 400 rfl)
set_option maxRecDepth 100000 in
theorem v_Reader_isWord_41 (σ : St) (l2 : Int32) (i1 : Nat) : Vv 66 0 41 [some (vR 40 0), some (vR 494 i1), some (vI l2)] [] σ = if l2 < (gI σ 40 0 5) then ix l2 700 (fun k1 => ix (l2 - (gI σ 40 0 4)) (slen i1) (fun k2 => if (gI σ 358555 0 k1) = (sch i1 k2) then Vv 66 0 41 [some (vR 40 0), some (vR 494 i1), some (vI (l2 + 1))] [] σ else retZ 0 σ)) else retZ 1 σ :=
  U_at (fun pc => Nat.beq pc 41) 400 rfl
/-! Reader.numberOfToken -/
set_option maxRecDepth 100000 in
theorem c_Reader_numberOfToken (σ : St) : Cc 67 0 [vR 40 0] σ = Vv 67 0 7 [some (vR 40 0), some (vI 0), some (vI (gI σ 40 0 4))] [] σ :=
  (Cc_eq _ _ _ _).trans (U_at (fun pc => Nat.beq pc 7) 400 rfl)
set_option maxRecDepth 100000 in
theorem v_Reader_numberOfToken_7 (σ : St) (l1 l2 : Int32) : Vv 67 0 7 [some (vR 40 0), some (vI l1), some (vI l2)] [] σ = if l2 < (gI σ 40 0 5) then if l2 < (700 : Int32) then ix l2 700 (fun k1 => Vv 67 0 7 [some (vR 40 0), some (vI (if 1000000 < (((l1 * (10 : Int32)) + (gI σ 358555 0 k1)) - (48 : Int32)) then 1000000 else (((l1 * (10 : Int32)) + (gI σ 358555 0 k1)) - (48 : Int32)))), some (vI (l2 + 1))] [] σ) else some (some (vI l1), σ) else some (some (vI l1), σ) :=
  U_at (fun pc => Nat.beq pc 7) 400 rfl
/-! Reader.nextToken -/
set_option maxRecDepth 100000 in
theorem c_Reader_nextToken (σ : St) : Cc 68 0 [vR 40 0] σ = Vv 68 0 13 [some (vR 40 0), some (vI (gI (sI σ 40 0 4 (gI σ 40 0 5)) 40 0 5))] [] (sI σ 40 0 4 (gI σ 40 0 5)) :=
  (Cc_eq _ _ _ _).trans (U_at (fun pc => Nat.beq pc 13 || Nat.beq pc 93) 400 rfl)
set_option maxRecDepth 100000 in
theorem v_Reader_nextToken_13 (σ : St) (l1 : Int32) : Vv 68 0 13 [some (vR 40 0), some (vI l1)] [] σ = if l1 < (gI σ 40 0 2) then cI (Cc 69 0 [vR 40 0, vI l1] σ) (fun x2 σ1 => if x2 = (5 : Int32) then Vv 68 0 13 [some (vR 40 0), some (vI (l1 + 1))] [] (sI σ1 40 0 4 (l1 + (1 : Int32))) else cI (Cc 69 0 [vR 40 0, vI (gI σ1 40 0 4)] σ1) (fun x4 σ3 => if (gI (sI (sI σ3 40 0 3 x4) 40 0 5 (if (gI (sI σ3 40 0 3 x4) 40 0 2) < ((gI (sI σ3 40 0 3 x4) 40 0 4) + (1 : Int32)) then (gI (sI σ3 40 0 3 x4) 40 0 2) else ((gI (sI σ3 40 0 3 x4) 40 0 4) + (1 : Int32)))) 40 0 3) = (1 : Int32) then Vv 68 0 93 [some (vR 40 0), some (vI (gI (sI (sI σ3 40 0 3 x4) 40 0 5 (if (gI (sI σ3 40 0 3 x4) 40 0 2) < ((gI (sI σ3 40 0 3 x4) 40 0 4) + (1 : Int32)) then (gI (sI σ3 40 0 3 x4) 40 0 2) else ((gI (sI σ3 40 0 3 x4) 40 0 4) + (1 : Int32)))) 40 0 5))] [] (sI (sI σ3 40 0 3 x4) 40 0 5 (if (gI (sI σ3 40 0 3 x4) 40 0 2) < ((gI (sI σ3 40 0 3 x4) 40 0 4) + (1 : Int32)) then (gI (sI σ3 40 0 3 x4) 40 0 2) else ((gI (sI σ3 40 0 3 x4) 40 0 4) + (1 : Int32)))) else if (gI (sI (sI σ3 40 0 3 x4) 40 0 5 (if (gI (sI σ3 40 0 3 x4) 40 0 2) < ((gI (sI σ3 40 0 3 x4) 40 0 4) + (1 : Int32)) then (gI (sI σ3 40 0 3 x4) 40 0 2) else ((gI (sI σ3 40 0 3 x4) 40 0 4) + (1 : Int32)))) 40 0 3) = (2 : Int32) then Vv 68 0 93 [some (vR 40 0), some (vI (gI (sI (sI σ3 40 0 3 x4) 40 0 5 (if (gI (sI σ3 40 0 3 x4) 40 0 2) < ((gI (sI σ3 40 0 3 x4) 40 0 4) + (1 : Int32)) then (gI (sI σ3 40 0 3 x4) 40 0 2) else ((gI (sI σ3 40 0 3 x4) 40 0 4) + (1 : Int32)))) 40 0 5))] [] (sI (sI σ3 40 0 3 x4) 40 0 5 (if (gI (sI σ3 40 0 3 x4) 40 0 2) < ((gI (sI σ3 40 0 3 x4) 40 0 4) + (1 : Int32)) then (gI (sI σ3 40 0 3 x4) 40 0 2) else ((gI (sI σ3 40 0 3 x4) 40 0 4) + (1 : Int32)))) else some (none, sI (sI σ3 40 0 3 x4) 40 0 5 (if (gI (sI σ3 40 0 3 x4) 40 0 2) < ((gI (sI σ3 40 0 3 x4) 40 0 4) + (1 : Int32)) then (gI (sI σ3 40 0 3 x4) 40 0 2) else ((gI (sI σ3 40 0 3 x4) 40 0 4) + (1 : Int32)))))) else cI (Cc 69 0 [vR 40 0, vI (gI σ 40 0 4)] σ) (fun x6 σ5 => if (gI (sI (sI σ5 40 0 3 x6) 40 0 5 (if (gI (sI σ5 40 0 3 x6) 40 0 2) < ((gI (sI σ5 40 0 3 x6) 40 0 4) + (1 : Int32)) then (gI (sI σ5 40 0 3 x6) 40 0 2) else ((gI (sI σ5 40 0 3 x6) 40 0 4) + (1 : Int32)))) 40 0 3) = (1 : Int32) then Vv 68 0 93 [some (vR 40 0), some (vI (gI (sI (sI σ5 40 0 3 x6) 40 0 5 (if (gI (sI σ5 40 0 3 x6) 40 0 2) < ((gI (sI σ5 40 0 3 x6) 40 0 4) + (1 : Int32)) then (gI (sI σ5 40 0 3 x6) 40 0 2) else ((gI (sI σ5 40 0 3 x6) 40 0 4) + (1 : Int32)))) 40 0 5))] [] (sI (sI σ5 40 0 3 x6) 40 0 5 (if (gI (sI σ5 40 0 3 x6) 40 0 2) < ((gI (sI σ5 40 0 3 x6) 40 0 4) + (1 : Int32)) then (gI (sI σ5 40 0 3 x6) 40 0 2) else ((gI (sI σ5 40 0 3 x6) 40 0 4) + (1 : Int32)))) else if (gI (sI (sI σ5 40 0 3 x6) 40 0 5 (if (gI (sI σ5 40 0 3 x6) 40 0 2) < ((gI (sI σ5 40 0 3 x6) 40 0 4) + (1 : Int32)) then (gI (sI σ5 40 0 3 x6) 40 0 2) else ((gI (sI σ5 40 0 3 x6) 40 0 4) + (1 : Int32)))) 40 0 3) = (2 : Int32) then Vv 68 0 93 [some (vR 40 0), some (vI (gI (sI (sI σ5 40 0 3 x6) 40 0 5 (if (gI (sI σ5 40 0 3 x6) 40 0 2) < ((gI (sI σ5 40 0 3 x6) 40 0 4) + (1 : Int32)) then (gI (sI σ5 40 0 3 x6) 40 0 2) else ((gI (sI σ5 40 0 3 x6) 40 0 4) + (1 : Int32)))) 40 0 5))] [] (sI (sI σ5 40 0 3 x6) 40 0 5 (if (gI (sI σ5 40 0 3 x6) 40 0 2) < ((gI (sI σ5 40 0 3 x6) 40 0 4) + (1 : Int32)) then (gI (sI σ5 40 0 3 x6) 40 0 2) else ((gI (sI σ5 40 0 3 x6) 40 0 4) + (1 : Int32)))) else some (none, sI (sI σ5 40 0 3 x6) 40 0 5 (if (gI (sI σ5 40 0 3 x6) 40 0 2) < ((gI (sI σ5 40 0 3 x6) 40 0 4) + (1 : Int32)) then (gI (sI σ5 40 0 3 x6) 40 0 2) else ((gI (sI σ5 40 0 3 x6) 40 0 4) + (1 : Int32))))) :=
  U_at (fun pc => Nat.beq pc 13 || Nat.beq pc 93) 400 rfl
set_option maxRecDepth 100000 in
theorem v_Reader_nextToken_93 (σ : St) (l1 : Int32) : Vv 68 0 93 [some (vR 40 0), some (vI l1)] [] σ = if l1 < (gI σ 40 0 2) then cI (Cc 69 0 [vR 40 0, vI l1] σ) (fun x2 σ1 => if x2 = (gI σ1 40 0 3) then Vv 68 0 93 [some (vR 40 0), some (vI (l1 + 1))] [] (sI σ1 40 0 5 (l1 + (1 : Int32))) else some (none, σ1)) else some (none, σ) :=
  U_at (fun pc => Nat.beq pc 13 || Nat.beq pc 93) 400 rfl
/-! Reader.kindAt -/
set_option maxRecDepth 100000 in
theorem c_Reader_kindAt (σ : St) (a1 : Int32) : Cc 69 0 [vR 40 0, vI a1] σ = if a1 < 0 then some (some (vI 0), σ) else if a1 < (gI σ 40 0 2) then if a1 < (700 : Int32) then ix a1 700 (fun k1 => if (gI σ 358555 0 k1) = (32 : Int32) then some (some (vI 5), σ) else if (gI σ 358555 0 k1) = (10 : Int32) then some (some (vI 5), σ) else if (gI σ 358555 0 k1) < (97 : Int32) then if (gI σ 358555 0 k1) < (48 : Int32) then if (gI σ 358555 0 k1) = (59 : Int32) then some (some (vI 3), σ) else some (some (vI 4), σ) else if (gI σ 358555 0 k1) ≤ (57 : Int32) then some (some (vI 2), σ) else if (gI σ 358555 0 k1) = (59 : Int32) then some (some (vI 3), σ) else some (some (vI 4), σ) else if (gI σ 358555 0 k1) ≤ (122 : Int32) then some (some (vI 1), σ) else if (gI σ 358555 0 k1) < (48 : Int32) then if (gI σ 358555 0 k1) = (59 : Int32) then some (some (vI 3), σ) else some (some (vI 4), σ) else if (gI σ 358555 0 k1) ≤ (57 : Int32) then some (some (vI 2), σ) else if (gI σ 358555 0 k1) = (59 : Int32) then some (some (vI 3), σ) else some (some (vI 4), σ)) else some (some (vI 0), σ) else some (some (vI 0), σ) :=
  (Cc_eq _ _ _ _).trans (U_at (fun pc => false) 400 rfl)
/-! Roof.isTold -/
set_option maxRecDepth 100000 in
theorem c_Roof_isTold (σ : St) (i0 : Nat) : Cc 70 0 [vR 48 i0] σ = if (gI σ 48 i0 3) ≤ 0 then retZ 0 σ else retZ 1 σ :=
  (Cc_eq _ _ _ _).trans (U_at (fun pc => false) 400 rfl)
/-! Roof.hasYear -/
set_option maxRecDepth 100000 in
theorem c_Roof_hasYear (σ : St) (a1 : Int32) (i0 : Nat) : Cc 71 0 [vR 48 i0, vI a1] σ = cI (Cc 70 0 [vR 48 i0] σ) (fun x2 σ1 => if x2 = 0 then retZ 0 σ1 else if a1 < 0 then retZ 0 σ1 else if a1 ≤ (gI σ1 48 i0 0) then retZ 1 σ1 else retZ 0 σ1) :=
  (Cc_eq _ _ _ _).trans (U_at (fun pc => false) 400 rfl)
/-! Roof.isTaken -/
set_option maxRecDepth 100000 in
theorem c_Roof_isTaken (σ : St) (a1 a2 : Int32) (i0 : Nat) : Cc 72 0 [vR 48 i0, vI a1, vI a2] σ = cI (Cc 49 0 [vR 32 (5 * i0 + 0), vI a1, vI a2] σ) (fun x2 σ1 => if x2 = 0 then cI (Cc 49 0 [vR 32 (5 * i0 + 1), vI a1, vI a2] σ1) (fun x4 σ3 => if x4 = 0 then cI (Cc 49 0 [vR 32 (5 * i0 + 2), vI a1, vI a2] σ3) (fun x6 σ5 => if x6 = 0 then retZ 0 σ5 else retZ 1 σ5) else retZ 1 σ3) else retZ 1 σ1) :=
  (Cc_eq _ _ _ _).trans (U_at (fun pc => false) 400 rfl)
/-! Roof.isFallen -/
set_option maxRecDepth 100000 in
theorem c_Roof_isFallen (σ : St) (a1 : Int32) (i0 : Nat) : Cc 73 0 [vR 48 i0, vI a1] σ = cI (Cc 4 0 [vR 0 i0, vI a1] σ) (fun x2 σ1 => retZ x2 σ1) :=
  (Cc_eq _ _ _ _).trans (U_at (fun pc => false) 400 rfl)
/-! Roof.worthOfMark -/
set_option maxRecDepth 100000 in
theorem c_Roof_worthOfMark (σ : St) (a1 : Int32) (i0 : Nat) : Cc 74 0 [vR 48 i0, vI a1] σ = cI (Cc 44 0 [vR 32 (5 * i0 + 1), vI a1] σ) (fun x2 σ1 => if x2 = 0 then some (some (vI 0), σ1) else ix a1 7 (fun k3 => some (some (vI (gI σ1 3705 i0 k3)), σ1))) :=
  (Cc_eq _ _ _ _).trans (U_at (fun pc => false) 400 rfl)
/-! Roof.setWorth -/
set_option maxRecDepth 100000 in
theorem c_Roof_setWorth (σ : St) (a1 a2 : Int32) (i0 : Nat) : Cc 75 0 [vR 48 i0, vI a1, vI a2] σ = cI (Cc 44 0 [vR 32 (5 * i0 + 1), vI a1] σ) (fun x2 σ1 => if x2 = 0 then some (none, σ1) else ix a1 7 (fun k3 => some (none, sI σ1 3705 i0 k3 a2))) :=
  (Cc_eq _ _ _ _).trans (U_at (fun pc => false) 400 rfl)
/-! Roof.worthOfSet -/
set_option maxRecDepth 100000 in
theorem c_Roof_worthOfSet (σ : St) (a1 : Int32) (i0 : Nat) : Cc 76 0 [vR 48 i0, vI a1] σ = Vv 76 0 4 [some (vR 48 i0), some (vI a1), some (vI 0), some (vI 0)] [] σ :=
  (Cc_eq _ _ _ _).trans (U_at (fun pc => Nat.beq pc 4) 400 rfl)
set_option maxRecDepth 100000 in
theorem v_Roof_worthOfSet_4 (σ : St) (l1 l2 l3 : Int32) (i0 : Nat) : Vv 76 0 4 [some (vR 48 i0), some (vI l1), some (vI l2), some (vI l3)] [] σ = if l3 < (gI σ 32 (5 * i0 + 1) 2) then if ((l1 >>> (l3 &&& 31)) &&& (1 : Int32)) = 0 then Vv 76 0 4 [some (vR 48 i0), some (vI l1), some (vI l2), some (vI (l3 + 1))] [] σ else ix l3 7 (fun k1 => Vv 76 0 4 [some (vR 48 i0), some (vI l1), some (vI (l2 + (gI σ 3705 i0 k1))), some (vI (l3 + 1))] [] σ) else some (some (vI l2), σ) :=
  U_at (fun pc => Nat.beq pc 4) 400 rfl
/-! Roof.neighbours -/
set_option maxRecDepth 100000 in
theorem c_Roof_neighbours (σ : St) (a1 : Int32) (i0 : Nat) : Cc 77 0 [vR 48 i0, vI a1] σ = Vv 77 0 4 [some (vR 48 i0), some (vI a1), some (vI 0), some (vI 0)] [] σ :=
  (Cc_eq _ _ _ _).trans (U_at (fun pc => Nat.beq pc 4) 400 rfl)
set_option maxRecDepth 100000 in
theorem v_Roof_neighbours_4 (σ : St) (l1 l2 l3 : Int32) (i0 : Nat) : Vv 77 0 4 [some (vR 48 i0), some (vI l1), some (vI l2), some (vI l3)] [] σ = if l3 < (gI σ 32 (5 * i0 + 3) 2) then cI (Cc 47 0 [vR 32 (5 * i0 + 3), vI l3] σ) (fun x2 σ1 => if x2 = l1 then cI (Cc 48 0 [vR 32 (5 * i0 + 3), vI l3] σ1) (fun x4 σ3 => cI (Cc 48 0 [vR 32 (5 * i0 + 3), vI l3] σ3) (fun x6 σ5 => if x6 = l1 then cI (Cc 47 0 [vR 32 (5 * i0 + 3), vI l3] σ5) (fun x8 σ7 => Vv 77 0 4 [some (vR 48 i0), some (vI l1), some (vI ((l2 ||| ((1 : Int32) <<< (x4 &&& 31))) ||| ((1 : Int32) <<< (x8 &&& 31)))), some (vI (l3 + 1))] [] σ7) else Vv 77 0 4 [some (vR 48 i0), some (vI l1), some (vI (l2 ||| ((1 : Int32) <<< (x4 &&& 31)))), some (vI (l3 + 1))] [] σ5)) else cI (Cc 48 0 [vR 32 (5 * i0 + 3), vI l3] σ1) (fun x10 σ9 => if x10 = l1 then cI (Cc 47 0 [vR 32 (5 * i0 + 3), vI l3] σ9) (fun x12 σ11 => Vv 77 0 4 [some (vR 48 i0), some (vI l1), some (vI (l2 ||| ((1 : Int32) <<< (x12 &&& 31)))), some (vI (l3 + 1))] [] σ11) else Vv 77 0 4 [some (vR 48 i0), some (vI l1), some (vI l2), some (vI (l3 + 1))] [] σ9)) else some (some (vI l2), σ) :=
  U_at (fun pc => Nat.beq pc 4) 400 rfl
/-! Roof.nextIn -/
set_option maxRecDepth 100000 in
theorem c_Roof_nextIn (σ : St) (a1 a2 : Int32) (i0 : Nat) : Cc 78 0 [vR 48 i0, vI a1, vI a2] σ = Vv 78 0 5 [some (vR 48 i0), some (vI a1), some (vI a2), some (vI a2), some (vI 0)] [] σ :=
  (Cc_eq _ _ _ _).trans (U_at (fun pc => Nat.beq pc 5) 400 rfl)
set_option maxRecDepth 100000 in
theorem v_Roof_nextIn_5 (σ : St) (l1 l2 l3 l4 : Int32) (i0 : Nat) : Vv 78 0 5 [some (vR 48 i0), some (vI l1), some (vI l2), some (vI l3), some (vI l4)] [] σ = if l4 < (gI σ 32 (5 * i0 + 0) 2) then if (l3 + (1 : Int32)) < (gI σ 32 (5 * i0 + 0) 2) then if ((l1 >>> ((l3 + (1 : Int32)) &&& 31)) &&& (1 : Int32)) = 0 then Vv 78 0 5 [some (vR 48 i0), some (vI l1), some (vI l2), some (vI (l3 + (1 : Int32))), some (vI (l4 + 1))] [] σ else some (some (vI (l3 + (1 : Int32))), σ) else if ((l1 >>> ((0 : Int32) &&& 31)) &&& (1 : Int32)) = 0 then Vv 78 0 5 [some (vR 48 i0), some (vI l1), some (vI l2), some (vI 0), some (vI (l4 + 1))] [] σ else some (some (vI 0), σ) else some (some (vI l2), σ) :=
  U_at (fun pc => Nat.beq pc 5) 400 rfl
/-! Roof.makeEmpty -/
set_option maxRecDepth 100000 in
theorem c_Roof_makeEmpty (σ : St) (i0 : Nat) : Cc 79 0 [vR 48 i0] σ = some (none, sI (sI (sI (sI (sI (sI (sI (sI (sI (sI σ 48 i0 0 0) 48 i0 1 0) 48 i0 2 0) 48 i0 3 0) 32 (5 * i0 + 0) 2 0) 32 (5 * i0 + 1) 2 0) 32 (5 * i0 + 2) 2 0) 32 (5 * i0 + 3) 2 0) 32 (5 * i0 + 4) 2 0) 0 i0 3 0) :=
  (Cc_eq _ _ _ _).trans (U_at (fun pc => false) 400 rfl)
/-! Roof.copyFrom -/
set_option maxRecDepth 100000 in
theorem c_Roof_copyFrom (σ : St) (i0 i1 : Nat) : Cc 80 0 [vR 48 i0, vR 48 i1] σ = cV (Cc 52 0 [vR 32 (5 * i0 + 0), vR 32 (5 * i1 + 0)] (sI (sI (sI (sI σ 48 i0 0 (gI σ 48 i1 0)) 48 i0 1 (gI (sI σ 48 i0 0 (gI σ 48 i1 0)) 48 i1 1)) 48 i0 2 (gI (sI (sI σ 48 i0 0 (gI σ 48 i1 0)) 48 i0 1 (gI (sI σ 48 i0 0 (gI σ 48 i1 0)) 48 i1 1)) 48 i1 2)) 48 i0 3 (gI (sI (sI (sI σ 48 i0 0 (gI σ 48 i1 0)) 48 i0 1 (gI (sI σ 48 i0 0 (gI σ 48 i1 0)) 48 i1 1)) 48 i0 2 (gI (sI (sI σ 48 i0 0 (gI σ 48 i1 0)) 48 i0 1 (gI (sI σ 48 i0 0 (gI σ 48 i1 0)) 48 i1 1)) 48 i1 2)) 48 i1 3))) (fun σ1 => cV (Cc 52 0 [vR 32 (5 * i0 + 1), vR 32 (5 * i1 + 1)] σ1) (fun σ2 => if 0 ≤ Int32.toInt 7 ∧ 0 ≤ Int32.toInt 0 ∧ 0 ≤ Int32.toInt 0 ∧ Int32.toInt 0 + Int32.toInt 7 ≤ ((7 : Nat) : Int) ∧ Int32.toInt 0 + Int32.toInt 7 ≤ ((7 : Nat) : Int) then cV (Cc 52 0 [vR 32 (5 * i0 + 2), vR 32 (5 * i1 + 2)] (cpI σ2 3705 i1 (Int32.toNatClampNeg 0) 3705 i0 (Int32.toNatClampNeg 0) (Int32.toNatClampNeg 7))) (fun σ3 => cV (Cc 52 0 [vR 32 (5 * i0 + 3), vR 32 (5 * i1 + 3)] σ3) (fun σ4 => cV (Cc 52 0 [vR 32 (5 * i0 + 4), vR 32 (5 * i1 + 4)] σ4) (fun σ5 => cV (Cc 7 0 [vR 0 i0, vR 0 i1] σ5) (fun σ6 => some (none, σ6))))) else none)) :=
  (Cc_eq _ _ _ _).trans (U_at (fun pc => false) 400 rfl)
/-! Rosters.tryAll -/
set_option maxRecDepth 100000 in
theorem c_Rosters_tryAll (σ : St) : Cc 81 0 [vR 56 0] σ = cI (Cc 199 0 [vI (gI σ 32 0 2), vI (gI σ 32 4 2)] σ) (fun x2 σ1 => Vv 81 0 38 [some (vR 56 0), some (vI (gI σ 32 4 2)), some (vI x2), some (vI 0), none] [] (sI (sI σ1 56 0 4 (-1)) 56 0 5 0)) :=
  (Cc_eq _ _ _ _).trans (U_at (fun pc => Nat.beq pc 38) 400 rfl)
set_option maxRecDepth 100000 in
theorem v_Rosters_tryAll_38 (σ : St) (l1 l2 l3 : Int32) : Vv 81 0 38 [some (vR 56 0), some (vI l1), some (vI l2), some (vI l3), none] [] σ = if l3 < l2 then cV (Cc 200 0 [vR 3297 0, vI (gI σ 32 0 2), vI l1, vI l3] σ) (fun σ1 => cI (Cc 82 0 [vR 56 0] σ1) (fun x3 σ2 => if x3 ≤ (gI σ2 56 0 4) then if x3 = (gI σ2 56 0 4) then Vv 81 0 38 [some (vR 56 0), some (vI l1), some (vI l2), some (vI (l3 + 1)), none] [] (sI σ2 56 0 5 ((gI σ2 56 0 5) + (1 : Int32))) else Vv 81 0 38 [some (vR 56 0), some (vI l1), some (vI l2), some (vI (l3 + 1)), none] [] σ2 else if 0 ≤ Int32.toInt 6 ∧ 0 ≤ Int32.toInt 0 ∧ 0 ≤ Int32.toInt 0 ∧ Int32.toInt 0 + Int32.toInt 6 ≤ ((6 : Nat) : Int) ∧ Int32.toInt 0 + Int32.toInt 6 ≤ ((6 : Nat) : Int) then if x3 = (gI (cpI (sI (sI σ2 56 0 4 x3) 56 0 5 0) 3297 0 (Int32.toNatClampNeg 0) 3305 0 (Int32.toNatClampNeg 0) (Int32.toNatClampNeg 6)) 56 0 4) then Vv 81 0 38 [some (vR 56 0), some (vI l1), some (vI l2), some (vI (l3 + 1)), none] [] (sI (cpI (sI (sI σ2 56 0 4 x3) 56 0 5 0) 3297 0 (Int32.toNatClampNeg 0) 3305 0 (Int32.toNatClampNeg 0) (Int32.toNatClampNeg 6)) 56 0 5 ((gI (cpI (sI (sI σ2 56 0 4 x3) 56 0 5 0) 3297 0 (Int32.toNatClampNeg 0) 3305 0 (Int32.toNatClampNeg 0) (Int32.toNatClampNeg 6)) 56 0 5) + (1 : Int32))) else Vv 81 0 38 [some (vR 56 0), some (vI l1), some (vI l2), some (vI (l3 + 1)), none] [] (cpI (sI (sI σ2 56 0 4 x3) 56 0 5 0) 3297 0 (Int32.toNatClampNeg 0) 3305 0 (Int32.toNatClampNeg 0) (Int32.toNatClampNeg 6)) else none)) else some (none, σ) :=
  U_at (fun pc => Nat.beq pc 38) 400 rfl
/-! Rosters.gladByRow -/
set_option maxRecDepth 100000 in
theorem c_Rosters_gladByRow (σ : St) : Cc 82 0 [vR 56 0] σ = Vv 82 0 4 [some (vR 56 0), some (vI 0), some (vI 0)] [] σ :=
  (Cc_eq _ _ _ _).trans (U_at (fun pc => Nat.beq pc 4) 400 rfl)
set_option maxRecDepth 100000 in
theorem v_Rosters_gladByRow_4 (σ : St) (l1 l2 : Int32) : Vv 82 0 4 [some (vR 56 0), some (vI l1), some (vI l2)] [] σ = if l2 < (gI σ 32 4 2) then ix l2 6 (fun k1 => cI (Cc 48 0 [vR 32 4, vI l2] σ) (fun x3 σ2 => cI (Cc 102 0 [vR 72 0, vI (gI σ 3297 0 k1), vI x3] σ2) (fun x5 σ4 => if x5 = 0 then Vv 82 0 4 [some (vR 56 0), some (vI l1), some (vI (l2 + 1))] [] σ4 else Vv 82 0 4 [some (vR 56 0), some (vI (l1 + 1)), some (vI (l2 + 1))] [] σ4))) else some (some (vI l1), σ) :=
  U_at (fun pc => Nat.beq pc 4) 400 rfl
/-! Rosters.placeInFirst -/
set_option maxRecDepth 100000 in
theorem c_Rosters_placeInFirst (σ : St) (a1 : Int32) : Cc 83 0 [vR 56 0, vI a1] σ = cI (Cc 44 0 [vR 32 4, vI a1] σ) (fun x2 σ1 => if x2 = 0 then some (some (vI 0), σ1) else ix a1 6 (fun k3 => some (some (vI (gI σ1 3305 0 k3)), σ1))) :=
  (Cc_eq _ _ _ _).trans (U_at (fun pc => false) 400 rfl)
/-! Rosters.ordersThatGive -/
set_option maxRecDepth 100000 in
theorem c_Rosters_ordersThatGive (σ : St) (a1 a2 : Int32) : Cc 84 0 [vR 56 0, vI a1, vI a2] σ = cI (Cc 199 0 [vI (gI σ 32 4 2), vI (gI σ 32 4 2)] σ) (fun x2 σ1 => Vv 84 0 24 [some (vR 56 0), some (vI a1), some (vI a2), some (vI (gI σ 32 4 2)), some (vI x2), some (vI 0), some (vI 0)] [] σ1) :=
  (Cc_eq _ _ _ _).trans (U_at (fun pc => Nat.beq pc 24) 400 rfl)
set_option maxRecDepth 100000 in
theorem v_Rosters_ordersThatGive_24 (σ : St) (l1 l2 l3 l4 l5 l6 : Int32) : Vv 84 0 24 [some (vR 56 0), some (vI l1), some (vI l2), some (vI l3), some (vI l4), some (vI l5), some (vI l6)] [] σ = if l6 < l4 then cV (Cc 200 0 [vR 3297 0, vI l3, vI l3, vI l6] σ) (fun σ1 => cI (Cc 85 0 [vR 56 0, vI l1] σ1) (fun x3 σ2 => if x3 = l2 then Vv 84 0 24 [some (vR 56 0), some (vI l1), some (vI l2), some (vI l3), some (vI l4), some (vI (l5 + 1)), some (vI (l6 + 1))] [] σ2 else Vv 84 0 24 [some (vR 56 0), some (vI l1), some (vI l2), some (vI l3), some (vI l4), some (vI l5), some (vI (l6 + 1))] [] σ2)) else some (some (vI l5), σ) :=
  U_at (fun pc => Nat.beq pc 24) 400 rfl
/-! Rosters.takenByOrder -/
set_option maxRecDepth 100000 in
theorem c_Rosters_takenByOrder (σ : St) (a1 : Int32) : Cc 85 0 [vR 56 0, vI a1] σ = cI (Cc 51 0 [vR 32 0] σ) (fun x2 σ1 => Vv 85 0 13 [some (vR 56 0), some (vI a1), some (vI x2), some (vI 0), none, none] [] σ1) :=
  (Cc_eq _ _ _ _).trans (U_at (fun pc => Nat.beq pc 13) 400 rfl)
set_option maxRecDepth 100000 in
theorem v_Rosters_takenByOrder_13 (σ : St) (l1 l2 l3 : Int32) : Vv 85 0 13 [some (vR 56 0), some (vI l1), some (vI l2), some (vI l3), none, none] [] σ = if l3 < (gI σ 32 4 2) then ix l3 6 (fun k1 => cI (Cc 48 0 [vR 32 4, vI (gI σ 3297 0 k1)] σ) (fun x3 σ2 => cI (Cc 106 0 [vR 72 0, vI l2, vI x3] σ2) (fun x5 σ4 => if x5 = (-1 : Int32) then cI (Cc 105 0 [vR 72 0, vI l2] σ4) (fun x7 σ6 => ix l3 6 (fun k8 => if (gI σ6 3297 0 k8) = l1 then some (some (vI x7), σ6) else if x7 = (-1 : Int32) then some (some (vI x7), σ6) else Vv 85 0 13 [some (vR 56 0), some (vI l1), some (vI (l2 &&& (((1 : Int32) <<< (x7 &&& 31)) ^^^ (-1 : Int32)))), some (vI (l3 + 1)), none, none] [] σ6)) else ix l3 6 (fun k9 => if (gI σ4 3297 0 k9) = l1 then some (some (vI x5), σ4) else if x5 = (-1 : Int32) then some (some (vI x5), σ4) else Vv 85 0 13 [some (vR 56 0), some (vI l1), some (vI (l2 &&& (((1 : Int32) <<< (x5 &&& 31)) ^^^ (-1 : Int32)))), some (vI (l3 + 1)), none, none] [] σ4)))) else some (some (vI (-1)), σ) :=
  U_at (fun pc => Nat.beq pc 13) 400 rfl
/-! Shifting.isGoal -/
set_option maxRecDepth 100000 in
theorem c_Shifting_isGoal (σ : St) (i1 : Nat) : Cc 86 0 [vR 64 0, vR 80 i1] σ = if (gI σ 80 i1 3) = (gI σ 32 4 2) then Vv 86 0 23 [some (vR 64 0), some (vR 80 i1), some (vI 0), some (vI 0), none, none] [] σ else retZ 0 σ :=
  (Cc_eq _ _ _ _).trans (U_at (fun pc => Nat.beq pc 23) 400 rfl)
set_option maxRecDepth 100000 in
theorem v_Shifting_isGoal_23 (σ : St) (l2 l3 : Int32) (i1 : Nat) : Vv 86 0 23 [some (vR 64 0), some (vR 80 i1), some (vI l2), some (vI l3), none, none] [] σ = if l3 < (gI σ 80 i1 3) then cL (Cc 112 0 [vR 80 i1, vI l3] σ) (fun x2 σ1 => if (lg_cmp x2 0) < 0 then retZ 0 σ1 else if (lg_cmp x2 (Int32.toInt64 (gI σ1 32 0 2))) < 0 then if ((l2 >>> ((Int64.toInt32 x2) &&& 31)) &&& (1 : Int32)) = 0 then Vv 86 0 23 [some (vR 64 0), some (vR 80 i1), some (vI (l2 ||| ((1 : Int32) <<< ((Int64.toInt32 x2) &&& 31)))), some (vI (l3 + 1)), none, none] [] σ1 else retZ 0 σ1 else retZ 0 σ1) else retZ 1 σ :=
  U_at (fun pc => Nat.beq pc 23) 400 rfl
/-! Shifting.fewest -/
set_option maxRecDepth 100000 in
theorem c_Shifting_fewest (σ : St) (i1 : Nat) : Cc 87 0 [vR 64 0, vR 80 i1] σ = Vv 87 0 2 [some (vR 64 0), some (vR 80 i1), some (vI 0)] [] σ :=
  (Cc_eq _ _ _ _).trans (U_at (fun pc => Nat.beq pc 2) 400 rfl)
set_option maxRecDepth 100000 in
theorem v_Shifting_fewest_2 (σ : St) (l2 : Int32) (i1 : Nat) : Vv 87 0 2 [some (vR 64 0), some (vR 80 i1), some (vI l2)] [] σ = if l2 < (gI σ 32 4 2) then cL (Cc 112 0 [vR 80 i1, vI l2] σ) (fun x2 σ1 => ix l2 6 (fun k3 => Vv 87 0 2 [some (vR 64 0), some (vR 80 i1), some (vI (l2 + 1))] [] (sI σ1 3329 0 k3 (Int64.toInt32 x2)))) else cV (Cc 91 0 [vR 64 0] σ) (fun σ4 => cV (Cc 90 0 [vR 64 0] σ4) (fun σ5 => cI (Cc 96 0 [vR 64 0] σ5) (fun x7 σ6 => some (some (vI x7), σ6)))) :=
  U_at (fun pc => Nat.beq pc 2) 400 rfl
/-! Shifting.firstLooker -/
set_option maxRecDepth 100000 in
theorem c_Shifting_firstLooker (σ : St) (i1 : Nat) : Cc 88 0 [vR 64 0, vR 80 i1] σ = cI (Cc 87 0 [vR 64 0, vR 80 i1] σ) (fun x2 σ1 => if x2 ≤ 0 then some (some (vI (-1)), σ1) else Vv 88 0 14 [some (vR 64 0), some (vR 80 i1), some (vI x2), some (vI 0), none, none, none] [] σ1) :=
  (Cc_eq _ _ _ _).trans (U_at (fun pc => Nat.beq pc 14 || Nat.beq pc 57) 400 rfl)
set_option maxRecDepth 100000 in
theorem v_Shifting_firstLooker_14 (σ : St) (l2 l3 : Int32) (i1 : Nat) : Vv 88 0 14 [some (vR 64 0), some (vR 80 i1), some (vI l2), some (vI l3), none, none, none] [] σ = if l3 < (gI σ 32 4 2) then ix l3 6 (fun k1 => cI (Cc 77 0 [vR 48 0, vI (gI σ 3329 0 k1)] σ) (fun x3 σ2 => cI (Cc 95 0 [vR 64 0] σ2) (fun x5 σ4 => Vv 88 0 57 [some (vR 64 0), some (vR 80 i1), some (vI l2), some (vI l3), some (vI (gI σ 3329 0 k1)), some (vI (x3 &&& (x5 ^^^ (-1 : Int32)))), some (vI 0)] [] σ4))) else some (some (vI (-1)), σ) :=
  U_at (fun pc => Nat.beq pc 14 || Nat.beq pc 57) 400 rfl
set_option maxRecDepth 100000 in
theorem v_Shifting_firstLooker_57 (σ : St) (l2 l3 l4 l5 l6 : Int32) (i1 : Nat) : Vv 88 0 57 [some (vR 64 0), some (vR 80 i1), some (vI l2), some (vI l3), some (vI l4), some (vI l5), some (vI l6)] [] σ = if l6 < (gI σ 32 0 2) then ix l3 6 (fun k1 => if ((l5 >>> (l6 &&& 31)) &&& (1 : Int32)) = 0 then Vv 88 0 57 [some (vR 64 0), some (vR 80 i1), some (vI l2), some (vI l3), some (vI l4), some (vI l5), some (vI (l6 + 1))] [] (sI σ 3329 0 k1 l6) else cI (Cc 96 0 [vR 64 0] (sI σ 3329 0 k1 l6)) (fun x3 σ2 => if x3 = (l2 - (1 : Int32)) then some (some (vI l3), σ2) else Vv 88 0 57 [some (vR 64 0), some (vR 80 i1), some (vI l2), some (vI l3), some (vI l4), some (vI l5), some (vI (l6 + 1))] [] σ2)) else ix l3 6 (fun k4 => Vv 88 0 14 [some (vR 64 0), some (vR 80 i1), some (vI l2), some (vI (l3 + 1)), none, none, none] [] (sI σ 3329 0 k4 l4)) :=
  U_at (fun pc => Nat.beq pc 14 || Nat.beq pc 57) 400 rfl
/-! Shifting.spreadFromTold -/
set_option maxRecDepth 100000 in
theorem c_Shifting_spreadFromTold (σ : St) : Cc 89 0 [vR 64 0] σ = cV (Cc 90 0 [vR 64 0] σ) (fun σ1 => cV (Cc 91 0 [vR 64 0] σ1) (fun σ2 => some (none, σ2))) :=
  (Cc_eq _ _ _ _).trans (U_at (fun pc => false) 400 rfl)
/-! Shifting.fillAsTold -/
set_option maxRecDepth 100000 in
theorem c_Shifting_fillAsTold (σ : St) : Cc 90 0 [vR 64 0] σ = Vv 90 0 2 [some (vR 64 0), some (vI 0)] [] σ :=
  (Cc_eq _ _ _ _).trans (U_at (fun pc => Nat.beq pc 2) 400 rfl)
set_option maxRecDepth 100000 in
theorem v_Shifting_fillAsTold_2 (σ : St) (l1 : Int32) : Vv 90 0 2 [some (vR 64 0), some (vI l1)] [] σ = if l1 < (gI σ 32 4 2) then cI (Cc 47 0 [vR 32 4, vI l1] σ) (fun x2 σ1 => ix l1 6 (fun k3 => Vv 90 0 2 [some (vR 64 0), some (vI (l1 + 1))] [] (sI σ1 3329 0 k3 x2))) else some (none, σ) :=
  U_at (fun pc => Nat.beq pc 2) 400 rfl
/-! Shifting.spread -/
set_option maxRecDepth 100000 in
theorem c_Shifting_spread (σ : St) : Cc 91 0 [vR 64 0] σ = Vv 91 0 2 [some (vR 64 0), some (vI 0)] [] σ :=
  (Cc_eq _ _ _ _).trans (U_at (fun pc => Nat.beq pc 2 || Nat.beq pc 24 || Nat.beq pc 67) 400 rfl)
set_option maxRecDepth 100000 in
theorem v_Shifting_spread_2 (σ : St) (l1 : Int32) : Vv 91 0 2 [some (vR 64 0), some (vI l1)] [] σ = if l1 < (720 : Int32) then ix l1 720 (fun k1 => Vv 91 0 2 [some (vR 64 0), some (vI (l1 + 1))] [] (sI σ 368881 0 k1 (-1))) else Vv 91 0 24 [some (vR 64 0), some (vI 0)] [] σ :=
  U_at (fun pc => Nat.beq pc 2 || Nat.beq pc 24 || Nat.beq pc 67) 400 rfl
set_option maxRecDepth 100000 in
theorem v_Shifting_spread_24 (σ : St) (l1 : Int32) : Vv 91 0 24 [some (vR 64 0), some (vI l1)] [] σ = if l1 < (6 : Int32) then cI (Cc 77 0 [vR 48 0, vI l1] σ) (fun x2 σ1 => ix l1 6 (fun k3 => Vv 91 0 24 [some (vR 64 0), some (vI (l1 + 1))] [] (sI σ1 3337 0 k3 x2))) else cV (Cc 94 0 [vR 64 0, vI 0] (sI (sI σ 64 0 5 0) 64 0 6 0)) (fun σ4 => Vv 91 0 67 [some (vR 64 0), some (vI 0)] [] σ4) :=
  U_at (fun pc => Nat.beq pc 2 || Nat.beq pc 24 || Nat.beq pc 67) 400 rfl
set_option maxRecDepth 100000 in
theorem v_Shifting_spread_67 (σ : St) (l1 : Int32) : Vv 91 0 67 [some (vR 64 0), some (vI l1)] [] σ = if l1 < (gI σ 64 0 5) then if l1 < (720 : Int32) then ix l1 720 (fun k1 => cV (Cc 200 0 [vR 3329 0, vI (gI σ 32 0 2), vI (gI σ 32 4 2), vI (gI σ 368889 0 k1)] σ) (fun σ2 => cV (Cc 92 0 [vR 64 0] σ2) (fun σ3 => Vv 91 0 67 [some (vR 64 0), some (vI (l1 + 1))] [] σ3))) else some (none, σ) else some (none, σ) :=
  U_at (fun pc => Nat.beq pc 2 || Nat.beq pc 24 || Nat.beq pc 67) 400 rfl
/-! Shifting.visitNeighbours -/
set_option maxRecDepth 100000 in
theorem c_Shifting_visitNeighbours (σ : St) : Cc 92 0 [vR 64 0] σ = cI (Cc 96 0 [vR 64 0] σ) (fun x2 σ1 => cI (Cc 95 0 [vR 64 0] σ1) (fun x4 σ3 => Vv 92 0 14 [some (vR 64 0), some (vI (x2 + (1 : Int32))), some (vI x4), some (vI 0), none, none, none] [] σ3)) :=
  (Cc_eq _ _ _ _).trans (U_at (fun pc => Nat.beq pc 14 || Nat.beq pc 51) 400 rfl)
set_option maxRecDepth 100000 in
theorem v_Shifting_visitNeighbours_14 (σ : St) (l1 l2 l3 : Int32) : Vv 92 0 14 [some (vR 64 0), some (vI l1), some (vI l2), some (vI l3), none, none, none] [] σ = if l3 < (gI σ 32 4 2) then ix l3 6 (fun k1 => cI (Cc 93 0 [vR 64 0, vI (gI σ 3329 0 k1)] σ) (fun x3 σ2 => Vv 92 0 51 [some (vR 64 0), some (vI l1), some (vI l2), some (vI l3), some (vI (gI σ 3329 0 k1)), some (vI (x3 &&& (l2 ^^^ (-1 : Int32)))), some (vI 0)] [] σ2)) else some (none, σ) :=
  U_at (fun pc => Nat.beq pc 14 || Nat.beq pc 51) 400 rfl
set_option maxRecDepth 100000 in
theorem v_Shifting_visitNeighbours_51 (σ : St) (l1 l2 l3 l4 l5 l6 : Int32) : Vv 92 0 51 [some (vR 64 0), some (vI l1), some (vI l2), some (vI l3), some (vI l4), some (vI l5), some (vI l6)] [] σ = if l6 < (gI σ 32 0 2) then if ((l5 >>> (l6 &&& 31)) &&& (1 : Int32)) = 0 then Vv 92 0 51 [some (vR 64 0), some (vI l1), some (vI l2), some (vI l3), some (vI l4), some (vI l5), some (vI (l6 + 1))] [] σ else ix l3 6 (fun k1 => cV (Cc 94 0 [vR 64 0, vI l1] (sI σ 3329 0 k1 l6)) (fun σ2 => Vv 92 0 51 [some (vR 64 0), some (vI l1), some (vI l2), some (vI l3), some (vI l4), some (vI l5), some (vI (l6 + 1))] [] σ2)) else ix l3 6 (fun k3 => Vv 92 0 14 [some (vR 64 0), some (vI l1), some (vI l2), some (vI (l3 + 1)), none, none, none] [] (sI σ 3329 0 k3 l4)) :=
  U_at (fun pc => Nat.beq pc 14 || Nat.beq pc 51) 400 rfl
