/-! BLOCKS: by program (wip/whole/blocks.py, split.py) -/
/-! Shifting.nearTo -/
set_option maxRecDepth 100000 in
theorem c_Shifting_nearTo (σ : St) (a1 : Int32) : Cc 93 0 [vR 64 0, vI a1] σ = if a1 < 0 then some (some (vI 0), σ) else if a1 < (6 : Int32) then ix a1 6 (fun k1 => some (some (vI (gI σ 3337 0 k1)), σ)) else some (some (vI 0), σ) :=
  (Cc_eq _ _ _ _).trans (U_at (fun pc => false) 400 rfl)
/-! Shifting.visit -/
set_option maxRecDepth 100000 in
theorem c_Shifting_visit (σ : St) (a1 : Int32) : Cc 94 0 [vR 64 0, vI a1] σ = cI (Cc 202 0 [vR 3329 0, vI (gI σ 32 0 2), vI (gI σ 32 4 2)] σ) (fun x2 σ1 => if x2 < 0 then some (none, σ1) else if x2 < (720 : Int32) then ix x2 720 (fun k3 => if (gI σ1 368881 0 k3) = (-1 : Int32) then if (gI σ1 64 0 5) < (720 : Int32) then ix x2 720 (fun k4 => ix (gI (sI (sI σ1 368881 0 k4 a1) 64 0 6 (if (gI (sI σ1 368881 0 k4 a1) 64 0 6) < a1 then a1 else (gI (sI σ1 368881 0 k4 a1) 64 0 6))) 64 0 5) 720 (fun k5 => some (none, sI (sI (sI (sI σ1 368881 0 k4 a1) 64 0 6 (if (gI (sI σ1 368881 0 k4 a1) 64 0 6) < a1 then a1 else (gI (sI σ1 368881 0 k4 a1) 64 0 6))) 368889 0 k5 x2) 64 0 5 ((gI (sI (sI (sI σ1 368881 0 k4 a1) 64 0 6 (if (gI (sI σ1 368881 0 k4 a1) 64 0 6) < a1 then a1 else (gI (sI σ1 368881 0 k4 a1) 64 0 6))) 368889 0 k5 x2) 64 0 5) + (1 : Int32))))) else some (none, σ1) else some (none, σ1)) else some (none, σ1)) :=
  (Cc_eq _ _ _ _).trans (U_at (fun pc => false) 400 rfl)
/-! Shifting.taken -/
set_option maxRecDepth 100000 in
theorem c_Shifting_taken (σ : St) : Cc 95 0 [vR 64 0] σ = Vv 95 0 4 [some (vR 64 0), some (vI 0), some (vI 0)] [] σ :=
  (Cc_eq _ _ _ _).trans (U_at (fun pc => Nat.beq pc 4) 400 rfl)
set_option maxRecDepth 100000 in
theorem v_Shifting_taken_4 (σ : St) (l1 l2 : Int32) : Vv 95 0 4 [some (vR 64 0), some (vI l1), some (vI l2)] [] σ = if l2 < (gI σ 32 4 2) then ix l2 6 (fun k1 => Vv 95 0 4 [some (vR 64 0), some (vI (l1 ||| ((1 : Int32) <<< ((gI σ 3329 0 k1) &&& 31)))), some (vI (l2 + 1))] [] σ) else some (some (vI l1), σ) :=
  U_at (fun pc => Nat.beq pc 4) 400 rfl
/-! Shifting.distanceOfRow -/
set_option maxRecDepth 100000 in
theorem c_Shifting_distanceOfRow (σ : St) : Cc 96 0 [vR 64 0] σ = cI (Cc 202 0 [vR 3329 0, vI (gI σ 32 0 2), vI (gI σ 32 4 2)] σ) (fun x2 σ1 => if x2 < 0 then some (some (vI (-1)), σ1) else if x2 < (720 : Int32) then ix x2 720 (fun k3 => some (some (vI (gI σ1 368881 0 k3)), σ1)) else some (some (vI (-1)), σ1)) :=
  (Cc_eq _ _ _ _).trans (U_at (fun pc => false) 400 rfl)
/-! Sight.look -/
set_option maxRecDepth 100000 in
theorem c_Sight_look (σ : St) (a1 : Int32) (i0 : Nat) : Cc 97 0 [vR 72 i0, vI a1] σ = Vv 97 0 2 [some (vR 72 i0), some (vI a1), some (vI 0), none, none] [] σ :=
  (Cc_eq _ _ _ _).trans (U_at (fun pc => Nat.beq pc 2 || Nat.beq pc 13) 400 rfl)
set_option maxRecDepth 100000 in
theorem v_Sight_look_2 (σ : St) (l1 l2 : Int32) (i0 : Nat) : Vv 97 0 2 [some (vR 72 i0), some (vI l1), some (vI l2), none, none] [] σ = if l2 < (6 : Int32) then Vv 97 0 13 [some (vR 72 i0), some (vI l1), some (vI l2), some (vI 0), some (vI 0)] [] σ else some (none, σ) :=
  U_at (fun pc => Nat.beq pc 2 || Nat.beq pc 13) 400 rfl
set_option maxRecDepth 100000 in
theorem v_Sight_look_13 (σ : St) (l1 l2 l3 l4 : Int32) (i0 : Nat) : Vv 97 0 13 [some (vR 72 i0), some (vI l1), some (vI l2), some (vI l3), some (vI l4)] [] σ = if l4 < (gI σ 32 1 2) then cI (Cc 44 0 [vR 32 0, vI l2] σ) (fun x2 σ1 => if x2 = 0 then ix l2 6 (fun k3 => cI (Cc 76 0 [vR 48 0, vI l3] (sI σ1 3265 i0 k3 l3)) (fun x5 σ4 => ix l2 6 (fun k6 => Vv 97 0 2 [some (vR 72 i0), some (vI l1), some (vI (l2 + 1)), none, none] [] (sI σ4 3273 i0 k6 x5)))) else cI (Cc 98 0 [vR 72 i0, vI l2, vI l4, vI l1] σ1) (fun x8 σ7 => if x8 = (-1 : Int32) then Vv 97 0 13 [some (vR 72 i0), some (vI l1), some (vI l2), some (vI (l3 ||| ((1 : Int32) <<< (l4 &&& 31)))), some (vI (l4 + 1))] [] σ7 else Vv 97 0 13 [some (vR 72 i0), some (vI l1), some (vI l2), some (vI l3), some (vI (l4 + 1))] [] σ7)) else ix l2 6 (fun k9 => cI (Cc 76 0 [vR 48 0, vI l3] (sI σ 3265 i0 k9 l3)) (fun x11 σ10 => ix l2 6 (fun k12 => Vv 97 0 2 [some (vR 72 i0), some (vI l1), some (vI (l2 + 1)), none, none] [] (sI σ10 3273 i0 k12 x11)))) :=
  U_at (fun pc => Nat.beq pc 2 || Nat.beq pc 13) 400 rfl
/-! Sight.hider -/
set_option maxRecDepth 100000 in
theorem c_Sight_hider (σ : St) (a1 a2 a3 : Int32) (i0 : Nat) : Cc 98 0 [vR 72 i0, vI a1, vI a2, vI a3] σ = Vv 98 0 3 [some (vR 72 i0), some (vI a1), some (vI a2), some (vI a3), some (vI 0)] [] σ :=
  (Cc_eq _ _ _ _).trans (U_at (fun pc => Nat.beq pc 3) 400 rfl)
set_option maxRecDepth 100000 in
theorem v_Sight_hider_3 (σ : St) (l1 l2 l3 l4 : Int32) (i0 : Nat) : Vv 98 0 3 [some (vR 72 i0), some (vI l1), some (vI l2), some (vI l3), some (vI l4)] [] σ = if l4 < (gI σ 32 2 2) then if l4 = l3 then Vv 98 0 3 [some (vR 72 i0), some (vI l1), some (vI l2), some (vI l3), some (vI (l4 + 1))] [] σ else cI (Cc 73 0 [vR 48 0, vI l4] σ) (fun x2 σ1 => if x2 = 0 then cI (Cc 99 0 [vR 72 i0, vI l4, vI l1, vI l2] σ1) (fun x4 σ3 => if x4 = 0 then Vv 98 0 3 [some (vR 72 i0), some (vI l1), some (vI l2), some (vI l3), some (vI (l4 + 1))] [] σ3 else some (some (vI l4), σ3)) else Vv 98 0 3 [some (vR 72 i0), some (vI l1), some (vI l2), some (vI l3), some (vI (l4 + 1))] [] σ1) else some (some (vI (-1)), σ) :=
  U_at (fun pc => Nat.beq pc 3) 400 rfl
/-! Sight.isBetween -/
set_option maxRecDepth 100000 in
theorem c_Sight_isBetween (σ : St) (a1 a2 a3 : Int32) (i0 : Nat) : Cc 99 0 [vR 72 i0, vI a1, vI a2, vI a3] σ = cI (Cc 47 0 [vR 32 0, vI a2] σ) (fun x2 σ1 => cI (Cc 47 0 [vR 32 2, vI a1] σ1) (fun x4 σ3 => cI (Cc 48 0 [vR 32 0, vI a2] σ3) (fun x6 σ5 => cI (Cc 48 0 [vR 32 2, vI a1] σ5) (fun x8 σ7 => Vv 99 0 50 [some (vR 72 i0), some (vI a1), some (vI a2), some (vI a3), some (vI (x2 - x4)), some (vI (x6 - x8)), none, none, none] [] σ7)))) :=
  (Cc_eq _ _ _ _).trans (U_at (fun pc => Nat.beq pc 50 || Nat.beq pc 100 || Nat.beq pc 120) 400 rfl)
set_option maxRecDepth 100000 in
theorem v_Sight_isBetween_50 (σ : St) (l1 l2 l3 l4 l5 : Int32) (i0 : Nat) : Vv 99 0 50 [some (vR 72 i0), some (vI l1), some (vI l2), some (vI l3), some (vI l4), some (vI l5), none, none, none] [] σ = cI (Cc 47 0 [vR 32 1, vI l3] σ) (fun x2 σ1 => cI (Cc 47 0 [vR 32 2, vI l1] σ1) (fun x4 σ3 => cI (Cc 48 0 [vR 32 1, vI l3] σ3) (fun x6 σ5 => cI (Cc 48 0 [vR 32 2, vI l1] σ5) (fun x8 σ7 => Vv 99 0 100 [some (vR 72 i0), some (vI l1), some (vI l2), some (vI l3), some (vI l4), some (vI l5), some (vI (x2 - x4)), some (vI (x6 - x8)), none] [] σ7)))) :=
  U_at (fun pc => Nat.beq pc 50 || Nat.beq pc 100 || Nat.beq pc 120) 400 rfl
set_option maxRecDepth 100000 in
theorem v_Sight_isBetween_100 (σ : St) (l1 l2 l3 l4 l5 l6 l7 : Int32) (i0 : Nat) : Vv 99 0 100 [some (vR 72 i0), some (vI l1), some (vI l2), some (vI l3), some (vI l4), some (vI l5), some (vI l6), some (vI l7), none] [] σ = if (l4 * l7) = (l5 * l6) then Vv 99 0 120 [some (vR 72 i0), some (vI l1), some (vI l2), some (vI l3), some (vI l4), some (vI l5), some (vI l6), some (vI l7), some (vI 1)] [] σ else Vv 99 0 120 [some (vR 72 i0), some (vI l1), some (vI l2), some (vI l3), some (vI l4), some (vI l5), some (vI l6), some (vI l7), some (vI 0)] [] σ :=
  U_at (fun pc => Nat.beq pc 50 || Nat.beq pc 100 || Nat.beq pc 120) 400 rfl
set_option maxRecDepth 100000 in
theorem v_Sight_isBetween_120 (σ : St) (l1 l2 l3 l4 l5 l6 l7 l8 : Int32) (i0 : Nat) : Vv 99 0 120 [some (vR 72 i0), some (vI l1), some (vI l2), some (vI l3), some (vI l4), some (vI l5), some (vI l6), some (vI l7), some (vI l8)] [] σ = if l8 = 0 then retZ 0 σ else if ((l4 * l6) + (l5 * l7)) < 0 then retZ 1 σ else retZ 0 σ :=
  U_at (fun pc => Nat.beq pc 50 || Nat.beq pc 100 || Nat.beq pc 120) 400 rfl
/-! Sight.marksFrom -/
set_option maxRecDepth 100000 in
theorem c_Sight_marksFrom (σ : St) (a1 : Int32) (i0 : Nat) : Cc 100 0 [vR 72 i0, vI a1] σ = if a1 < 0 then some (some (vI 0), σ) else if a1 < (6 : Int32) then ix a1 6 (fun k1 => some (some (vI (gI σ 3265 i0 k1)), σ)) else some (some (vI 0), σ) :=
  (Cc_eq _ _ _ _).trans (U_at (fun pc => false) 400 rfl)
/-! Sight.worthFrom -/
set_option maxRecDepth 100000 in
theorem c_Sight_worthFrom (σ : St) (a1 : Int32) (i0 : Nat) : Cc 101 0 [vR 72 i0, vI a1] σ = if a1 < 0 then some (some (vI 0), σ) else if a1 < (6 : Int32) then ix a1 6 (fun k1 => some (some (vI (gI σ 3273 i0 k1)), σ)) else some (some (vI 0), σ) :=
  (Cc_eq _ _ _ _).trans (U_at (fun pc => false) 400 rfl)
/-! Sight.isSeen -/
set_option maxRecDepth 100000 in
theorem c_Sight_isSeen (σ : St) (a1 a2 : Int32) (i0 : Nat) : Cc 102 0 [vR 72 i0, vI a1, vI a2] σ = if a1 < 0 then retZ 0 σ else if a1 < (6 : Int32) then ix a1 6 (fun k1 => if (((gI σ 3265 i0 k1) >>> (a2 &&& 31)) &&& (1 : Int32)) = 0 then retZ 0 σ else retZ 1 σ) else retZ 0 σ :=
  (Cc_eq _ _ _ _).trans (U_at (fun pc => false) 400 rfl)
/-! Sight.placesOf -/
set_option maxRecDepth 100000 in
theorem c_Sight_placesOf (σ : St) (a1 : Int32) (i0 : Nat) : Cc 103 0 [vR 72 i0, vI a1] σ = Vv 103 0 4 [some (vR 72 i0), some (vI a1), some (vI 0), some (vI 0)] [] σ :=
  (Cc_eq _ _ _ _).trans (U_at (fun pc => Nat.beq pc 4) 400 rfl)
set_option maxRecDepth 100000 in
theorem v_Sight_placesOf_4 (σ : St) (l1 l2 l3 : Int32) (i0 : Nat) : Vv 103 0 4 [some (vR 72 i0), some (vI l1), some (vI l2), some (vI l3)] [] σ = if l3 < (gI σ 32 0 2) then cI (Cc 102 0 [vR 72 i0, vI l3, vI l1] σ) (fun x2 σ1 => if x2 = 0 then Vv 103 0 4 [some (vR 72 i0), some (vI l1), some (vI l2), some (vI (l3 + 1))] [] σ1 else Vv 103 0 4 [some (vR 72 i0), some (vI l1), some (vI (l2 ||| ((1 : Int32) <<< (l3 &&& 31)))), some (vI (l3 + 1))] [] σ1) else some (some (vI l2), σ) :=
  U_at (fun pc => Nat.beq pc 4) 400 rfl
/-! Sight.marksFromSet -/
set_option maxRecDepth 100000 in
theorem c_Sight_marksFromSet (σ : St) (a1 : Int32) (i0 : Nat) : Cc 104 0 [vR 72 i0, vI a1] σ = Vv 104 0 4 [some (vR 72 i0), some (vI a1), some (vI 0), some (vI 0)] [] σ :=
  (Cc_eq _ _ _ _).trans (U_at (fun pc => Nat.beq pc 4) 400 rfl)
set_option maxRecDepth 100000 in
theorem v_Sight_marksFromSet_4 (σ : St) (l1 l2 l3 : Int32) (i0 : Nat) : Vv 104 0 4 [some (vR 72 i0), some (vI l1), some (vI l2), some (vI l3)] [] σ = if l3 < (gI σ 32 0 2) then if ((l1 >>> (l3 &&& 31)) &&& (1 : Int32)) = 0 then Vv 104 0 4 [some (vR 72 i0), some (vI l1), some (vI l2), some (vI (l3 + 1))] [] σ else ix l3 6 (fun k1 => Vv 104 0 4 [some (vR 72 i0), some (vI l1), some (vI (l2 ||| (gI σ 3265 i0 k1))), some (vI (l3 + 1))] [] σ) else some (some (vI l2), σ) :=
  U_at (fun pc => Nat.beq pc 4) 400 rfl
/-! Sight.placeOfMostWorth -/
set_option maxRecDepth 100000 in
theorem c_Sight_placeOfMostWorth (σ : St) (a1 : Int32) (i0 : Nat) : Cc 105 0 [vR 72 i0, vI a1] σ = Vv 105 0 4 [some (vR 72 i0), some (vI a1), some (vI (-1)), some (vI 0)] [] σ :=
  (Cc_eq _ _ _ _).trans (U_at (fun pc => Nat.beq pc 4) 400 rfl)
set_option maxRecDepth 100000 in
theorem v_Sight_placeOfMostWorth_4 (σ : St) (l1 l2 l3 : Int32) (i0 : Nat) : Vv 105 0 4 [some (vR 72 i0), some (vI l1), some (vI l2), some (vI l3)] [] σ = if l3 < (gI σ 32 0 2) then if ((l1 >>> (l3 &&& 31)) &&& (1 : Int32)) = 0 then Vv 105 0 4 [some (vR 72 i0), some (vI l1), some (vI l2), some (vI (l3 + 1))] [] σ else if l2 = (-1 : Int32) then Vv 105 0 4 [some (vR 72 i0), some (vI l1), some (vI l3), some (vI (l3 + 1))] [] σ else ix l3 6 (fun k1 => ix l2 6 (fun k2 => if (gI σ 3273 i0 k1) ≤ (gI σ 3273 i0 k2) then Vv 105 0 4 [some (vR 72 i0), some (vI l1), some (vI l2), some (vI (l3 + 1))] [] σ else Vv 105 0 4 [some (vR 72 i0), some (vI l1), some (vI l3), some (vI (l3 + 1))] [] σ)) else some (some (vI l2), σ) :=
  U_at (fun pc => Nat.beq pc 4) 400 rfl
/-! Sight.firstThatSees -/
set_option maxRecDepth 100000 in
theorem c_Sight_firstThatSees (σ : St) (a1 a2 : Int32) (i0 : Nat) : Cc 106 0 [vR 72 i0, vI a1, vI a2] σ = Vv 106 0 2 [some (vR 72 i0), some (vI a1), some (vI a2), some (vI 0)] [] σ :=
  (Cc_eq _ _ _ _).trans (U_at (fun pc => Nat.beq pc 2) 400 rfl)
set_option maxRecDepth 100000 in
theorem v_Sight_firstThatSees_2 (σ : St) (l1 l2 l3 : Int32) (i0 : Nat) : Vv 106 0 2 [some (vR 72 i0), some (vI l1), some (vI l2), some (vI l3)] [] σ = if l3 < (gI σ 32 0 2) then if ((l1 >>> (l3 &&& 31)) &&& (1 : Int32)) = 0 then Vv 106 0 2 [some (vR 72 i0), some (vI l1), some (vI l2), some (vI (l3 + 1))] [] σ else cI (Cc 102 0 [vR 72 i0, vI l3, vI l2] σ) (fun x2 σ1 => if x2 = 0 then Vv 106 0 2 [some (vR 72 i0), some (vI l1), some (vI l2), some (vI (l3 + 1))] [] σ1 else some (some (vI l3), σ1)) else some (some (vI (-1)), σ) :=
  U_at (fun pc => Nat.beq pc 2) 400 rfl
/-! Sight.worthOfNthBest -/
set_option maxRecDepth 100000 in
theorem c_Sight_worthOfNthBest (σ : St) (a1 : Int32) (i0 : Nat) : Cc 107 0 [vR 72 i0, vI a1] σ = Vv 107 0 4 [some (vR 72 i0), some (vI a1), some (vI 0), some (vI 0), none, none] [] σ :=
  (Cc_eq _ _ _ _).trans (U_at (fun pc => Nat.beq pc 4 || Nat.beq pc 24) 400 rfl)
set_option maxRecDepth 100000 in
theorem v_Sight_worthOfNthBest_4 (σ : St) (l1 l2 l3 : Int32) (i0 : Nat) : Vv 107 0 4 [some (vR 72 i0), some (vI l1), some (vI l2), some (vI l3), none, none] [] σ = if l3 < (gI σ 32 0 2) then Vv 107 0 24 [some (vR 72 i0), some (vI l1), some (vI l2), some (vI l3), some (vI 0), some (vI 0)] [] σ else some (some (vI l2), σ) :=
  U_at (fun pc => Nat.beq pc 4 || Nat.beq pc 24) 400 rfl
set_option maxRecDepth 100000 in
theorem v_Sight_worthOfNthBest_24 (σ : St) (l1 l2 l3 l4 l5 : Int32) (i0 : Nat) : Vv 107 0 24 [some (vR 72 i0), some (vI l1), some (vI l2), some (vI l3), some (vI l4), some (vI l5)] [] σ = if l5 < (gI σ 32 0 2) then ix l5 6 (fun k1 => ix l3 6 (fun k2 => if (gI σ 3273 i0 k1) < (gI σ 3273 i0 k2) then Vv 107 0 24 [some (vR 72 i0), some (vI l1), some (vI l2), some (vI l3), some (vI l4), some (vI (l5 + 1))] [] σ else Vv 107 0 24 [some (vR 72 i0), some (vI l1), some (vI l2), some (vI l3), some (vI (l4 + 1)), some (vI (l5 + 1))] [] σ)) else if l4 < l1 then Vv 107 0 4 [some (vR 72 i0), some (vI l1), some (vI l2), some (vI (l3 + 1)), none, none] [] σ else ix l3 6 (fun k3 => Vv 107 0 4 [some (vR 72 i0), some (vI l1), some (vI (if l2 < (gI σ 3273 i0 k3) then (gI σ 3273 i0 k3) else l2)), some (vI (l3 + 1)), none, none] [] σ) :=
  U_at (fun pc => Nat.beq pc 4 || Nat.beq pc 24) 400 rfl
/-! Sight.sixtiethsOfShare -/
set_option maxRecDepth 100000 in
theorem c_Sight_sixtiethsOfShare (σ : St) (a1 : Int32) (i0 : Nat) : Cc 108 0 [vR 72 i0, vI a1] σ = Vv 108 0 4 [some (vR 72 i0), some (vI a1), some (vI 0), some (vI 0), none] [] σ :=
  (Cc_eq _ _ _ _).trans (U_at (fun pc => Nat.beq pc 4) 400 rfl)
set_option maxRecDepth 100000 in
theorem v_Sight_sixtiethsOfShare_4 (σ : St) (l1 l2 l3 : Int32) (i0 : Nat) : Vv 108 0 4 [some (vR 72 i0), some (vI l1), some (vI l2), some (vI l3), none] [] σ = if l3 < (gI σ 32 1 2) then cI (Cc 103 0 [vR 72 i0, vI l3] σ) (fun x2 σ1 => cI (Cc 371 0 [vI x2] σ1) (fun x4 σ3 => cI (Cc 102 0 [vR 72 i0, vI l1, vI l3] σ3) (fun x6 σ5 => if x6 = 0 then Vv 108 0 4 [some (vR 72 i0), some (vI l1), some (vI l2), some (vI (l3 + 1)), none] [] σ5 else if x4 ≤ 0 then Vv 108 0 4 [some (vR 72 i0), some (vI l1), some (vI l2), some (vI (l3 + 1)), none] [] σ5 else cI (Cc 74 0 [vR 48 0, vI l3] σ5) (fun x8 σ7 => if x4 = 0 then none else Vv 108 0 4 [some (vR 72 i0), some (vI l1), some (vI (l2 + (x8 * ((60 : Int32) / x4)))), some (vI (l3 + 1)), none] [] σ7)))) else some (some (vI l2), σ) :=
  U_at (fun pc => Nat.beq pc 4) 400 rfl
/-! Sight.leastWatch -/
set_option maxRecDepth 100000 in
theorem c_Sight_leastWatch (σ : St) (i0 : Nat) : Cc 109 0 [vR 72 i0] σ = cI (Cc 51 0 [vR 32 0] σ) (fun x2 σ1 => cI (Cc 104 0 [vR 72 i0, vI x2] σ1) (fun x4 σ3 => Vv 109 0 22 [some (vR 72 i0), some (vI x2), some (vI x4), some (vI x2), some (vI 0)] [] σ3)) :=
  (Cc_eq _ _ _ _).trans (U_at (fun pc => Nat.beq pc 22) 400 rfl)
set_option maxRecDepth 100000 in
theorem v_Sight_leastWatch_22 (σ : St) (l1 l2 l3 l4 : Int32) (i0 : Nat) : Vv 109 0 22 [some (vR 72 i0), some (vI l1), some (vI l2), some (vI l3), some (vI l4)] [] σ = if l4 ≤ l1 then cI (Cc 104 0 [vR 72 i0, vI l4] σ) (fun x2 σ1 => if x2 = l2 then cI (Cc 371 0 [vI l4] σ1) (fun x4 σ3 => cI (Cc 371 0 [vI l3] σ3) (fun x6 σ5 => if x4 < x6 then Vv 109 0 22 [some (vR 72 i0), some (vI l1), some (vI l2), some (vI l4), some (vI (l4 + 1))] [] σ5 else Vv 109 0 22 [some (vR 72 i0), some (vI l1), some (vI l2), some (vI l3), some (vI (l4 + 1))] [] σ5)) else Vv 109 0 22 [some (vR 72 i0), some (vI l1), some (vI l2), some (vI l3), some (vI (l4 + 1))] [] σ1) else some (some (vI l3), σ) :=
  U_at (fun pc => Nat.beq pc 22) 400 rfl
/-! Slot.makeAnew -/
set_option maxRecDepth 100000 in
theorem c_Slot_makeAnew (σ : St) (a1 a2 : Int32) (i0 : Nat) : Cc 110 0 [vR 80 i0, vI a1, vI a2] σ = if (1 : Int32) = 0 ∨ (1 : Int32) = 1 then Vv 110 0 26 [some (vR 80 i0), some (vI a1), some (vI a2), some (vI 0)] [] (sI (sI (sI σ 80 i0 1 1) 80 i0 2 a1) 80 i0 3 (if 0 < (if 60 < a2 then 60 else a2) then (if 60 < a2 then 60 else a2) else 0)) else none :=
  (Cc_eq _ _ _ _).trans (U_at (fun pc => Nat.beq pc 26) 400 rfl)
set_option maxRecDepth 100000 in
theorem v_Slot_makeAnew_26 (σ : St) (l1 l2 l3 : Int32) (i0 : Nat) : Vv 110 0 26 [some (vR 80 i0), some (vI l1), some (vI l2), some (vI l3)] [] σ = if l3 < (60 : Int32) then ix l3 60 (fun k1 => Vv 110 0 26 [some (vR 80 i0), some (vI l1), some (vI l2), some (vI (l3 + 1))] [] (sL σ 30906 i0 k1 0)) else some (none, σ) :=
  U_at (fun pc => Nat.beq pc 26) 400 rfl
/-! Slot.hasNumbers -/
set_option maxRecDepth 100000 in
theorem c_Slot_hasNumbers (σ : St) (a1 a2 : Int32) (i0 : Nat) : Cc 111 0 [vR 80 i0, vI a1, vI a2] σ = if a1 < 0 then retZ 0 σ else if a2 < 0 then retZ 0 σ else if (lg_cmp ((Int32.toInt64 a1) + (Int32.toInt64 a2)) (Int32.toInt64 (gI σ 80 i0 3))) ≤ 0 then retZ 1 σ else retZ 0 σ :=
  (Cc_eq _ _ _ _).trans (U_at (fun pc => false) 400 rfl)
/-! Slot.number -/
set_option maxRecDepth 100000 in
theorem c_Slot_number (σ : St) (a1 : Int32) (i0 : Nat) : Cc 112 0 [vR 80 i0, vI a1] σ = cI (Cc 111 0 [vR 80 i0, vI a1, vI 1] σ) (fun x2 σ1 => if x2 = 0 then some (some (vL 0), σ1) else ix a1 60 (fun k3 => some (some (vL (gL σ1 30906 i0 k3)), σ1))) :=
  (Cc_eq _ _ _ _).trans (U_at (fun pc => false) 400 rfl)
/-! Slot.setNumber -/
set_option maxRecDepth 100000 in
theorem c_Slot_setNumber (σ : St) (a1 : Int32) (a2 : Int64) (i0 : Nat) : Cc 113 0 [vR 80 i0, vI a1, vL a2] σ = cI (Cc 111 0 [vR 80 i0, vI a1, vI 1] σ) (fun x2 σ1 => if x2 = 0 then some (none, σ1) else cL (Cc 114 0 [vR 80 i0, vL a2] σ1) (fun x4 σ3 => ix a1 60 (fun k5 => some (none, sL σ3 30906 i0 k5 x4)))) :=
  (Cc_eq _ _ _ _).trans (U_at (fun pc => false) 400 rfl)
/-! Slot.cut -/
set_option maxRecDepth 100000 in
theorem c_Slot_cut (σ : St) (a1 : Int64) (i0 : Nat) : Cc 114 0 [vR 80 i0, vL a1] σ = if Int32.toInt (gI σ 80 i0 2) = 0 then some (some (vL (Int32.toInt64 ((Int32.toInt8 (Int64.toInt32 a1)).toInt32))), σ) else if Int32.toInt (gI σ 80 i0 2) = 0 + 1 then some (some (vL (Int32.toInt64 ((Int32.toInt16 (Int64.toInt32 a1)).toInt32))), σ) else if Int32.toInt (gI σ 80 i0 2) = 0 + 1 + 1 then some (some (vL (Int32.toInt64 (Int64.toInt32 a1))), σ) else some (some (vL a1), σ) :=
  (Cc_eq _ _ _ _).trans (U_at (fun pc => false) 400 rfl)
/-! H.feed -/
set_option maxRecDepth 100000 in
theorem c_H_feed (σ : St) (a1 a2 a3 a4 a5 : Int32) : Cc 115 0 [vR 88 0, vI a1, vI a2, vI a3, vI a4, vI a5] σ = if ((gI σ 40 0 2) + (20 : Int32)) ≤ (700 : Int32) then cV (Cc 53 0 [vR 40 0, vI a1] σ) (fun σ1 => cV (Cc 53 0 [vR 40 0, vI a2] σ1) (fun σ2 => cV (Cc 53 0 [vR 40 0, vI a3] σ2) (fun σ3 => cV (Cc 53 0 [vR 40 0, vI a4] σ3) (fun σ4 => cV (Cc 53 0 [vR 40 0, vI a5] σ4) (fun σ5 => some (some (vI (gI σ5 40 0 2)), σ5)))))) else some (some (vI (-1)), σ) :=
  (Cc_eq _ _ _ _).trans (U_at (fun pc => false) 400 rfl)
/-! H.end -/
set_option maxRecDepth 100000 in
theorem c_H_end (σ : St) (a1 : Int32) : Cc 116 0 [vR 88 0, vI a1] σ = if a1 < 0 then some (some (vI (-1)), σ) else if a1 ≤ (gI σ 40 0 2) then some (some (vI a1), sI σ 40 0 2 a1) else some (some (vI (-1)), σ) :=
  (Cc_eq _ _ _ _).trans (U_at (fun pc => false) 400 rfl)
/-! H.roof -/
set_option maxRecDepth 100000 in
theorem c_H_roof (σ : St) : Cc 117 0 [vR 88 0] σ = cI (Cc 54 0 [vR 40 0] σ) (fun x2 σ1 => if x2 = 0 then some (some (vI (-4)), sI σ1 40 0 2 0) else cV (Cc 80 0 [vR 48 0, vR 48 1] (sI σ1 40 0 2 0)) (fun σ3 => cV (Cc 182 0 [vR 88 0] σ3) (fun σ4 => some (some (vI (gI σ4 48 0 3)), σ4)))) :=
  (Cc_eq _ _ _ _).trans (U_at (fun pc => false) 400 rfl)
/-! H.fault -/
set_option maxRecDepth 100000 in
theorem c_H_fault (σ : St) (a1 : Int32) : Cc 118 0 [vR 88 0, vI a1] σ = if a1 = 0 then some (some (vI (gI σ 40 0 8)), σ) else if a1 = (1 : Int32) then some (some (vI (gI σ 40 0 9)), σ) else some (some (vI (-1)), σ) :=
  (Cc_eq _ _ _ _).trans (U_at (fun pc => false) 400 rfl)
/-! H.place -/
set_option maxRecDepth 100000 in
theorem c_H_place (σ : St) (a1 a2 : Int32) : Cc 119 0 [vR 88 0, vI a1, vI a2] σ = cI (Cc 183 0 [vR 32 0, vI a1, vI a2] σ) (fun x2 σ1 => some (some (vI x2), σ1)) :=
  (Cc_eq _ _ _ _).trans (U_at (fun pc => false) 400 rfl)
/-! H.mark -/
set_option maxRecDepth 100000 in
theorem c_H_mark (σ : St) (a1 a2 : Int32) : Cc 120 0 [vR 88 0, vI a1, vI a2] σ = cI (Cc 44 0 [vR 32 1, vI a1] σ) (fun x2 σ1 => if x2 = 0 then cI (Cc 183 0 [vR 32 1, vI a1, vI a2] σ1) (fun x4 σ3 => some (some (vI x4), σ3)) else if a2 = (2 : Int32) then cI (Cc 74 0 [vR 48 0, vI a1] σ1) (fun x6 σ5 => some (some (vI x6), σ5)) else cI (Cc 183 0 [vR 32 1, vI a1, vI a2] σ1) (fun x8 σ7 => some (some (vI x8), σ7))) :=
  (Cc_eq _ _ _ _).trans (U_at (fun pc => false) 400 rfl)
/-! H.flue -/
set_option maxRecDepth 100000 in
theorem c_H_flue (σ : St) (a1 a2 : Int32) : Cc 121 0 [vR 88 0, vI a1, vI a2] σ = cI (Cc 44 0 [vR 32 2, vI a1] σ) (fun x2 σ1 => if x2 = 0 then cI (Cc 183 0 [vR 32 2, vI a1, vI a2] σ1) (fun x4 σ3 => some (some (vI x4), σ3)) else if a2 = (2 : Int32) then cI (Cc 73 0 [vR 48 0, vI a1] σ1) (fun x6 σ5 => if x6 = 0 then some (some (vI 1), σ5) else some (some (vI 0), σ5)) else cI (Cc 183 0 [vR 32 2, vI a1, vI a2] σ1) (fun x8 σ7 => some (some (vI x8), σ7))) :=
  (Cc_eq _ _ _ _).trans (U_at (fun pc => false) 400 rfl)
/-! H.looker -/
set_option maxRecDepth 100000 in
theorem c_H_looker (σ : St) (a1 a2 : Int32) : Cc 122 0 [vR 88 0, vI a1, vI a2] σ = cI (Cc 183 0 [vR 32 4, vI a1, vI a2] σ) (fun x2 σ1 => some (some (vI x2), σ1)) :=
  (Cc_eq _ _ _ _).trans (U_at (fun pc => false) 400 rfl)
/-! H.ways -/
set_option maxRecDepth 100000 in
theorem c_H_ways (σ : St) (a1 : Int32) : Cc 123 0 [vR 88 0, vI a1] σ = cI (Cc 44 0 [vR 32 0, vI a1] σ) (fun x2 σ1 => if x2 = 0 then some (some (vI (-2)), σ1) else cI (Cc 77 0 [vR 48 0, vI a1] σ1) (fun x4 σ3 => some (some (vI x4), σ3))) :=
  (Cc_eq _ _ _ _).trans (U_at (fun pc => false) 400 rfl)
/-! H.sees -/
set_option maxRecDepth 100000 in
theorem c_H_sees (σ : St) (a1 : Int32) : Cc 124 0 [vR 88 0, vI a1] σ = cI (Cc 44 0 [vR 32 0, vI a1] σ) (fun x2 σ1 => if x2 = 0 then some (some (vI (-2)), σ1) else cI (Cc 100 0 [vR 72 0, vI a1] σ1) (fun x4 σ3 => some (some (vI x4), σ3))) :=
  (Cc_eq _ _ _ _).trans (U_at (fun pc => false) 400 rfl)
/-! H.from -/
set_option maxRecDepth 100000 in
theorem c_H_from (σ : St) (a1 : Int32) : Cc 125 0 [vR 88 0, vI a1] σ = cI (Cc 44 0 [vR 32 1, vI a1] σ) (fun x2 σ1 => if x2 = 0 then some (some (vI (-2)), σ1) else cI (Cc 103 0 [vR 72 0, vI a1] σ1) (fun x4 σ3 => some (some (vI x4), σ3))) :=
  (Cc_eq _ _ _ _).trans (U_at (fun pc => false) 400 rfl)
/-! H.hides -/
set_option maxRecDepth 100000 in
theorem c_H_hides (σ : St) (a1 a2 : Int32) : Cc 126 0 [vR 88 0, vI a1, vI a2] σ = cI (Cc 44 0 [vR 32 0, vI a1] σ) (fun x2 σ1 => if x2 = 0 then some (some (vI (-2)), σ1) else cI (Cc 44 0 [vR 32 1, vI a2] σ1) (fun x4 σ3 => if x4 = 0 then some (some (vI (-2)), σ3) else cI (Cc 98 0 [vR 72 0, vI a1, vI a2, vI (-1)] σ3) (fun x6 σ5 => some (some (vI x6), σ5)))) :=
  (Cc_eq _ _ _ _).trans (U_at (fun pc => false) 400 rfl)
/-! H.worth -/
set_option maxRecDepth 100000 in
theorem c_H_worth (σ : St) (a1 : Int32) : Cc 127 0 [vR 88 0, vI a1] σ = cI (Cc 44 0 [vR 32 0, vI a1] σ) (fun x2 σ1 => if x2 = 0 then some (some (vI (-2)), σ1) else cI (Cc 101 0 [vR 72 0, vI a1] σ1) (fun x4 σ3 => some (some (vI x4), σ3))) :=
  (Cc_eq _ _ _ _).trans (U_at (fun pc => false) 400 rfl)
/-! H.blind -/
set_option maxRecDepth 100000 in
theorem c_H_blind (σ : St) : Cc 128 0 [vR 88 0] σ = cI (Cc 70 0 [vR 48 0] σ) (fun x2 σ1 => if x2 = 0 then some (some (vI (-2)), σ1) else Vv 128 0 17 [some (vR 88 0), some (vI 0), some (vI 0)] [] σ1) :=
  (Cc_eq _ _ _ _).trans (U_at (fun pc => Nat.beq pc 17) 400 rfl)
set_option maxRecDepth 100000 in
theorem v_H_blind_17 (σ : St) (l1 l2 : Int32) : Vv 128 0 17 [some (vR 88 0), some (vI l1), some (vI l2)] [] σ = if l2 < (gI σ 32 0 2) then cI (Cc 100 0 [vR 72 0, vI l2] σ) (fun x2 σ1 => if x2 = 0 then Vv 128 0 17 [some (vR 88 0), some (vI (l1 ||| ((1 : Int32) <<< (l2 &&& 31)))), some (vI (l2 + 1))] [] σ1 else Vv 128 0 17 [some (vR 88 0), some (vI l1), some (vI (l2 + 1))] [] σ1) else some (some (vI l1), σ) :=
  U_at (fun pc => Nat.beq pc 17) 400 rfl
/-! H.lost -/
set_option maxRecDepth 100000 in
theorem c_H_lost (σ : St) : Cc 129 0 [vR 88 0] σ = cI (Cc 70 0 [vR 48 0] σ) (fun x2 σ1 => if x2 = 0 then some (some (vI (-2)), σ1) else cI (Cc 51 0 [vR 32 1] σ1) (fun x4 σ3 => cI (Cc 51 0 [vR 32 0] σ3) (fun x6 σ5 => cI (Cc 104 0 [vR 72 0, vI x6] σ5) (fun x8 σ7 => some (some (vI (x4 &&& (x8 ^^^ (-1 : Int32)))), σ7))))) :=
  (Cc_eq _ _ _ _).trans (U_at (fun pc => false) 400 rfl)
/-! H.best -/
set_option maxRecDepth 100000 in
theorem c_H_best (σ : St) : Cc 130 0 [vR 88 0] σ = cI (Cc 70 0 [vR 48 0] σ) (fun x2 σ1 => if x2 = 0 then some (some (vI (-2)), σ1) else cI (Cc 51 0 [vR 32 0] σ1) (fun x4 σ3 => cI (Cc 105 0 [vR 72 0, vI x4] σ3) (fun x6 σ5 => some (some (vI x6), σ5)))) :=
  (Cc_eq _ _ _ _).trans (U_at (fun pc => false) 400 rfl)
/-! H.at -/
set_option maxRecDepth 100000 in
theorem c_H_at (σ : St) (a1 a2 : Int32) : Cc 131 0 [vR 88 0, vI a1, vI a2] σ = cI (Cc 188 0 [vR 88 0, vI a1, vI a2] σ) (fun x2 σ1 => if x2 = 0 then some (some (vI (-2)), σ1) else cI (Cc 35 0 [vR 24 0, vI a1, vI a2] σ1) (fun x4 σ3 => some (some (vI x4), σ3))) :=
  (Cc_eq _ _ _ _).trans (U_at (fun pc => false) 400 rfl)
/-! H.who -/
set_option maxRecDepth 100000 in
theorem c_H_who (σ : St) (a1 a2 : Int32) : Cc 132 0 [vR 88 0, vI a1, vI a2] σ = cI (Cc 44 0 [vR 32 0, vI a1] σ) (fun x2 σ1 => if x2 = 0 then some (some (vI (-2)), σ1) else cI (Cc 71 0 [vR 48 0, vI a2] σ1) (fun x4 σ3 => if x4 = 0 then some (some (vI (-2)), σ3) else Vv 132 0 30 [some (vR 88 0), some (vI a1), some (vI a2), some (vI 0)] [] σ3)) :=
  (Cc_eq _ _ _ _).trans (U_at (fun pc => Nat.beq pc 30) 400 rfl)
set_option maxRecDepth 100000 in
theorem v_H_who_30 (σ : St) (l1 l2 l3 : Int32) : Vv 132 0 30 [some (vR 88 0), some (vI l1), some (vI l2), some (vI l3)] [] σ = if l3 < (gI σ 32 4 2) then cI (Cc 35 0 [vR 24 0, vI l3, vI l2] σ) (fun x2 σ1 => if x2 = l1 then some (some (vI l3), σ1) else Vv 132 0 30 [some (vR 88 0), some (vI l1), some (vI l2), some (vI (l3 + 1))] [] σ1) else some (some (vI (-1)), σ) :=
  U_at (fun pc => Nat.beq pc 30) 400 rfl
/-! H.seen -/
set_option maxRecDepth 100000 in
theorem c_H_seen (σ : St) (a1 a2 : Int32) : Cc 133 0 [vR 88 0, vI a1, vI a2] σ = cI (Cc 188 0 [vR 88 0, vI a1, vI a2] σ) (fun x2 σ1 => if x2 = 0 then some (some (vI (-2)), σ1) else Vv 133 0 17 [some (vR 88 0), some (vI a1), some (vI a2), some (vI 0), some (vI 0)] [] σ1) :=
  (Cc_eq _ _ _ _).trans (U_at (fun pc => Nat.beq pc 17) 400 rfl)
set_option maxRecDepth 100000 in
theorem v_H_seen_17 (σ : St) (l1 l2 l3 l4 : Int32) : Vv 133 0 17 [some (vR 88 0), some (vI l1), some (vI l2), some (vI l3), some (vI l4)] [] σ = if l4 ≤ l2 then cI (Cc 37 0 [vR 24 0, vI l1, vI l4] σ) (fun x2 σ1 => Vv 133 0 17 [some (vR 88 0), some (vI l1), some (vI l2), some (vI (l3 ||| x2)), some (vI (l4 + 1))] [] σ1) else some (some (vI l3), σ) :=
  U_at (fun pc => Nat.beq pc 17) 400 rfl
/-! H.joy -/
set_option maxRecDepth 100000 in
theorem c_H_joy (σ : St) (a1 a2 : Int32) : Cc 134 0 [vR 88 0, vI a1, vI a2] σ = cI (Cc 188 0 [vR 88 0, vI a1, vI a2] σ) (fun x2 σ1 => if x2 = 0 then some (some (vI (-2)), σ1) else cI (Cc 40 0 [vR 24 0, vI a1, vI a2] σ1) (fun x4 σ3 => some (some (vI x4), σ3))) :=
  (Cc_eq _ _ _ _).trans (U_at (fun pc => false) 400 rfl)
/-! H.life -/
set_option maxRecDepth 100000 in
theorem c_H_life (σ : St) (a1 : Int32) : Cc 135 0 [vR 88 0, vI a1] σ = cI (Cc 44 0 [vR 32 4, vI a1] σ) (fun x2 σ1 => if x2 = 0 then some (some (vI (-2)), σ1) else cI (Cc 41 0 [vR 24 0, vI a1] σ1) (fun x4 σ3 => some (some (vI x4), σ3))) :=
  (Cc_eq _ _ _ _).trans (U_at (fun pc => false) 400 rfl)
/-! H.sad -/
set_option maxRecDepth 100000 in
theorem c_H_sad (σ : St) : Cc 136 0 [vR 88 0] σ = cI (Cc 70 0 [vR 48 0] σ) (fun x2 σ1 => if x2 = 0 then some (some (vI (-2)), σ1) else Vv 136 0 19 [some (vR 88 0), some (vI (-1)), some (vI 0), some (vI 0), none] [] σ1) :=
  (Cc_eq _ _ _ _).trans (U_at (fun pc => Nat.beq pc 19) 400 rfl)
set_option maxRecDepth 100000 in
theorem v_H_sad_19 (σ : St) (l1 l2 l3 : Int32) : Vv 136 0 19 [some (vR 88 0), some (vI l1), some (vI l2), some (vI l3), none] [] σ = if l3 < (gI σ 32 4 2) then cI (Cc 41 0 [vR 24 0, vI l3] σ) (fun x2 σ1 => if l1 = (-1 : Int32) then Vv 136 0 19 [some (vR 88 0), some (vI l3), some (vI x2), some (vI (l3 + 1)), none] [] σ1 else if x2 < l2 then Vv 136 0 19 [some (vR 88 0), some (vI l3), some (vI x2), some (vI (l3 + 1)), none] [] σ1 else Vv 136 0 19 [some (vR 88 0), some (vI l1), some (vI l2), some (vI (l3 + 1)), none] [] σ1) else some (some (vI l1), σ) :=
  U_at (fun pc => Nat.beq pc 19) 400 rfl
/-! H.drill -/
set_option maxRecDepth 100000 in
theorem c_H_drill (σ : St) (a1 : Int32) : Cc 137 0 [vR 88 0, vI a1] σ = cI (Cc 44 0 [vR 32 4, vI a1] σ) (fun x2 σ1 => if x2 = 0 then some (some (vI (-2)), σ1) else cI (Cc 39 0 [vR 24 0, vI a1] σ1) (fun x4 σ3 => some (some (vI x4), σ3))) :=
  (Cc_eq _ _ _ _).trans (U_at (fun pc => false) 400 rfl)
/-! H.glad -/
set_option maxRecDepth 100000 in
theorem c_H_glad (σ : St) (a1 : Int32) : Cc 138 0 [vR 88 0, vI a1] σ = cI (Cc 71 0 [vR 48 0, vI a1] σ) (fun x2 σ1 => if x2 = 0 then some (some (vI (-2)), σ1) else Vv 138 0 18 [some (vR 88 0), some (vI a1), some (vI 0), some (vI 0)] [] σ1) :=
  (Cc_eq _ _ _ _).trans (U_at (fun pc => Nat.beq pc 18) 400 rfl)
set_option maxRecDepth 100000 in
theorem v_H_glad_18 (σ : St) (l1 l2 l3 : Int32) : Vv 138 0 18 [some (vR 88 0), some (vI l1), some (vI l2), some (vI l3)] [] σ = if l3 < (gI σ 32 4 2) then cI (Cc 38 0 [vR 24 0, vI l3, vI l1] σ) (fun x2 σ1 => if x2 = 0 then Vv 138 0 18 [some (vR 88 0), some (vI l1), some (vI l2), some (vI (l3 + 1))] [] σ1 else Vv 138 0 18 [some (vR 88 0), some (vI l1), some (vI (l2 ||| ((1 : Int32) <<< (l3 &&& 31)))), some (vI (l3 + 1))] [] σ1) else some (some (vI l2), σ) :=
  U_at (fun pc => Nat.beq pc 18) 400 rfl
/-! H.often -/
set_option maxRecDepth 100000 in
theorem c_H_often (σ : St) (a1 : Int32) : Cc 139 0 [vR 88 0, vI a1] σ = cI (Cc 44 0 [vR 32 4, vI a1] σ) (fun x2 σ1 => if x2 = 0 then some (some (vI (-2)), σ1) else Vv 139 0 21 [some (vR 88 0), some (vI a1), some (vI 0), some (vI 0)] [] σ1) :=
  (Cc_eq _ _ _ _).trans (U_at (fun pc => Nat.beq pc 21) 400 rfl)
set_option maxRecDepth 100000 in
theorem v_H_often_21 (σ : St) (l1 l2 l3 : Int32) : Vv 139 0 21 [some (vR 88 0), some (vI l1), some (vI l2), some (vI l3)] [] σ = if l3 ≤ (gI σ 48 0 0) then cI (Cc 38 0 [vR 24 0, vI l1, vI l3] σ) (fun x2 σ1 => if x2 = 0 then Vv 139 0 21 [some (vR 88 0), some (vI l1), some (vI l2), some (vI (l3 + 1))] [] σ1 else Vv 139 0 21 [some (vR 88 0), some (vI l1), some (vI (l2 + 1)), some (vI (l3 + 1))] [] σ1) else some (some (vI l2), σ) :=
  U_at (fun pc => Nat.beq pc 21) 400 rfl
/-! H.round -/
set_option maxRecDepth 100000 in
theorem c_H_round (σ : St) : Cc 140 0 [vR 88 0] σ = cI (Cc 70 0 [vR 48 0] σ) (fun x2 σ1 => if x2 = 0 then some (some (vI (-2)), σ1) else Vv 140 0 15 [some (vR 88 0), some (vI 1)] [] σ1) :=
  (Cc_eq _ _ _ _).trans (U_at (fun pc => Nat.beq pc 15) 400 rfl)
set_option maxRecDepth 100000 in
theorem v_H_round_15 (σ : St) (l1 : Int32) : Vv 140 0 15 [some (vR 88 0), some (vI l1)] [] σ = if l1 ≤ (gI σ 48 0 0) then cI (Cc 36 0 [vR 24 0, vI 0, vI l1] σ) (fun x2 σ1 => if x2 = 0 then Vv 140 0 15 [some (vR 88 0), some (vI (l1 + 1))] [] σ1 else some (some (vI l1), σ1)) else some (some (vI (-1)), σ) :=
  U_at (fun pc => Nat.beq pc 15) 400 rfl
/-! H.walks -/
set_option maxRecDepth 100000 in
theorem c_H_walks (σ : St) (a1 : Int32) : Cc 141 0 [vR 88 0, vI a1] σ = cI (Cc 44 0 [vR 32 4, vI a1] σ) (fun x2 σ1 => if x2 = 0 then some (some (vI (-2)), σ1) else Vv 141 0 21 [some (vR 88 0), some (vI a1), some (vI 0), some (vI 0)] [] σ1) :=
  (Cc_eq _ _ _ _).trans (U_at (fun pc => Nat.beq pc 21) 400 rfl)
set_option maxRecDepth 100000 in
theorem v_H_walks_21 (σ : St) (l1 l2 l3 : Int32) : Vv 141 0 21 [some (vR 88 0), some (vI l1), some (vI l2), some (vI l3)] [] σ = if l3 ≤ (gI σ 48 0 0) then cI (Cc 35 0 [vR 24 0, vI l1, vI l3] σ) (fun x2 σ1 => Vv 141 0 21 [some (vR 88 0), some (vI l1), some (vI (l2 ||| ((1 : Int32) <<< (x2 &&& 31)))), some (vI (l3 + 1))] [] σ1) else some (some (vI l2), σ) :=
  U_at (fun pc => Nat.beq pc 21) 400 rfl
/-! H.feast -/
set_option maxRecDepth 100000 in
theorem c_H_feast (σ : St) : Cc 142 0 [vR 88 0] σ = cI (Cc 70 0 [vR 48 0] σ) (fun x2 σ1 => if x2 = 0 then some (some (vI (-2)), σ1) else Vv 142 0 17 [some (vR 88 0), some (vI 0), some (vI 1)] [] σ1) :=
  (Cc_eq _ _ _ _).trans (U_at (fun pc => Nat.beq pc 17) 400 rfl)
set_option maxRecDepth 100000 in
theorem v_H_feast_17 (σ : St) (l1 l2 : Int32) : Vv 142 0 17 [some (vR 88 0), some (vI l1), some (vI l2)] [] σ = if l2 ≤ (gI σ 48 0 0) then cI (Cc 42 0 [vR 24 0, vI l2] σ) (fun x2 σ1 => cI (Cc 42 0 [vR 24 0, vI l1] σ1) (fun x4 σ3 => if x2 ≤ x4 then Vv 142 0 17 [some (vR 88 0), some (vI l1), some (vI (l2 + 1))] [] σ3 else Vv 142 0 17 [some (vR 88 0), some (vI l2), some (vI (l2 + 1))] [] σ3)) else some (some (vI l1), σ) :=
  U_at (fun pc => Nat.beq pc 17) 400 rfl
/-! H.envies -/
set_option maxRecDepth 100000 in
theorem c_H_envies (σ : St) (a1 a2 : Int32) : Cc 143 0 [vR 88 0, vI a1, vI a2] σ = cI (Cc 188 0 [vR 88 0, vI a1, vI a2] σ) (fun x2 σ1 => if x2 = 0 then some (some (vI (-2)), σ1) else cI (Cc 35 0 [vR 24 0, vI a1, vI a2] σ1) (fun x4 σ3 => cI (Cc 101 0 [vR 72 0, vI x4] σ3) (fun x6 σ5 => Vv 143 0 35 [some (vR 88 0), some (vI a1), some (vI a2), some (vI x6), some (vI 0), some (vI 0)] [] σ5))) :=
  (Cc_eq _ _ _ _).trans (U_at (fun pc => Nat.beq pc 35) 400 rfl)
set_option maxRecDepth 100000 in
theorem v_H_envies_35 (σ : St) (l1 l2 l3 l4 l5 : Int32) : Vv 143 0 35 [some (vR 88 0), some (vI l1), some (vI l2), some (vI l3), some (vI l4), some (vI l5)] [] σ = if l5 < (gI σ 32 4 2) then cI (Cc 35 0 [vR 24 0, vI l5, vI l2] σ) (fun x2 σ1 => cI (Cc 101 0 [vR 72 0, vI x2] σ1) (fun x4 σ3 => if x4 ≤ l3 then Vv 143 0 35 [some (vR 88 0), some (vI l1), some (vI l2), some (vI l3), some (vI l4), some (vI (l5 + 1))] [] σ3 else Vv 143 0 35 [some (vR 88 0), some (vI l1), some (vI l2), some (vI l3), some (vI (l4 ||| ((1 : Int32) <<< (l5 &&& 31)))), some (vI (l5 + 1))] [] σ3)) else some (some (vI l4), σ) :=
  U_at (fun pc => Nat.beq pc 35) 400 rfl
/-! H.trade -/
set_option maxRecDepth 100000 in
theorem c_H_trade (σ : St) (a1 : Int32) : Cc 144 0 [vR 88 0, vI a1] σ = cI (Cc 71 0 [vR 48 0, vI a1] σ) (fun x2 σ1 => if x2 = 0 then some (some (vI (-2)), σ1) else Vv 144 0 16 [some (vR 88 0), some (vI a1), some (vI 0), none] [] σ1) :=
  (Cc_eq _ _ _ _).trans (U_at (fun pc => Nat.beq pc 16 || Nat.beq pc 34) 400 rfl)
set_option maxRecDepth 100000 in
theorem v_H_trade_16 (σ : St) (l1 l2 : Int32) : Vv 144 0 16 [some (vR 88 0), some (vI l1), some (vI l2), none] [] σ = if l2 < (gI σ 32 4 2) then Vv 144 0 34 [some (vR 88 0), some (vI l1), some (vI l2), some (vI (l2 + (1 : Int32)))] [] σ else some (some (vI (-1)), σ) :=
  U_at (fun pc => Nat.beq pc 16 || Nat.beq pc 34) 400 rfl
set_option maxRecDepth 100000 in
theorem v_H_trade_34 (σ : St) (l1 l2 l3 : Int32) : Vv 144 0 34 [some (vR 88 0), some (vI l1), some (vI l2), some (vI l3)] [] σ = if l3 < (gI σ 32 4 2) then cI (Cc 191 0 [vR 88 0, vI l2, vI l3, vI l1] σ) (fun x2 σ1 => if x2 = 0 then Vv 144 0 34 [some (vR 88 0), some (vI l1), some (vI l2), some (vI (l3 + 1))] [] σ1 else cI (Cc 191 0 [vR 88 0, vI l3, vI l2, vI l1] σ1) (fun x4 σ3 => if x4 = 0 then Vv 144 0 34 [some (vR 88 0), some (vI l1), some (vI l2), some (vI (l3 + 1))] [] σ3 else some (some (vI (((10 : Int32) * l2) + l3)), σ3))) else Vv 144 0 16 [some (vR 88 0), some (vI l1), some (vI (l2 + 1)), none] [] σ :=
  U_at (fun pc => Nat.beq pc 16 || Nat.beq pc 34) 400 rfl
/-! H.roster -/
set_option maxRecDepth 100000 in
theorem c_H_roster (σ : St) : Cc 145 0 [vR 88 0] σ = cI (Cc 70 0 [vR 48 0] σ) (fun x2 σ1 => if x2 = 0 then some (some (vI (-2)), σ1) else cV (Cc 81 0 [vR 56 0] σ1) (fun σ3 => some (some (vI (gI σ3 56 0 4)), σ3))) :=
  (Cc_eq _ _ _ _).trans (U_at (fun pc => false) 400 rfl)
/-! H.put -/
set_option maxRecDepth 100000 in
theorem c_H_put (σ : St) (a1 : Int32) : Cc 146 0 [vR 88 0, vI a1] σ = cI (Cc 44 0 [vR 32 4, vI a1] σ) (fun x2 σ1 => if x2 = 0 then some (some (vI (-2)), σ1) else cV (Cc 81 0 [vR 56 0] σ1) (fun σ3 => cI (Cc 83 0 [vR 56 0, vI a1] σ3) (fun x5 σ4 => some (some (vI x5), σ4)))) :=
  (Cc_eq _ _ _ _).trans (U_at (fun pc => false) 400 rfl)
/-! H.rosters -/
set_option maxRecDepth 100000 in
theorem c_H_rosters (σ : St) : Cc 147 0 [vR 88 0] σ = cI (Cc 70 0 [vR 48 0] σ) (fun x2 σ1 => if x2 = 0 then some (some (vI (-2)), σ1) else cV (Cc 81 0 [vR 56 0] σ1) (fun σ3 => some (some (vI (gI σ3 56 0 5)), σ3))) :=
  (Cc_eq _ _ _ _).trans (U_at (fun pc => false) 400 rfl)
/-! H.fair -/
set_option maxRecDepth 100000 in
theorem c_H_fair (σ : St) : Cc 148 0 [vR 88 0] σ = cI (Cc 70 0 [vR 48 0] σ) (fun x2 σ1 => if x2 = 0 then some (some (vI (-2)), σ1) else if (gI σ1 32 4 2) = 0 then some (some (vI (-1)), σ1) else cI (Cc 107 0 [vR 72 0, vI (gI σ1 32 4 2)] σ1) (fun x4 σ3 => some (some (vI x4), σ3))) :=
  (Cc_eq _ _ _ _).trans (U_at (fun pc => false) 400 rfl)
/-! H.shifts -/
set_option maxRecDepth 100000 in
theorem c_H_shifts (σ : St) (a1 : Int32) : Cc 149 0 [vR 88 0, vI a1] σ = cI (Cc 192 0 [vR 88 0, vI a1] σ) (fun x2 σ1 => if x2 = 0 then ix a1 4 (fun k3 => cI (Cc 87 0 [vR 64 0, vR 80 k3] σ1) (fun x5 σ4 => some (some (vI x5), σ4))) else some (some (vI x2), σ1)) :=
  (Cc_eq _ _ _ _).trans (U_at (fun pc => false) 400 rfl)
/-! H.first -/
set_option maxRecDepth 100000 in
theorem c_H_first (σ : St) (a1 : Int32) : Cc 150 0 [vR 88 0, vI a1] σ = cI (Cc 192 0 [vR 88 0, vI a1] σ) (fun x2 σ1 => if x2 = 0 then ix a1 4 (fun k3 => cI (Cc 88 0 [vR 64 0, vR 80 k3] σ1) (fun x5 σ4 => some (some (vI x5), σ4))) else some (some (vI x2), σ1)) :=
  (Cc_eq _ _ _ _).trans (U_at (fun pc => false) 400 rfl)
/-! H.reach -/
set_option maxRecDepth 100000 in
theorem c_H_reach (σ : St) : Cc 151 0 [vR 88 0] σ = cI (Cc 70 0 [vR 48 0] σ) (fun x2 σ1 => if x2 = 0 then some (some (vI (-2)), σ1) else cV (Cc 89 0 [vR 64 0] σ1) (fun σ3 => some (some (vI (gI σ3 64 0 5)), σ3))) :=
  (Cc_eq _ _ _ _).trans (U_at (fun pc => false) 400 rfl)
/-! H.far -/
set_option maxRecDepth 100000 in
theorem c_H_far (σ : St) : Cc 152 0 [vR 88 0] σ = cI (Cc 70 0 [vR 48 0] σ) (fun x2 σ1 => if x2 = 0 then some (some (vI (-2)), σ1) else cV (Cc 89 0 [vR 64 0] σ1) (fun σ3 => some (some (vI (gI σ3 64 0 6)), σ3))) :=
  (Cc_eq _ _ _ _).trans (U_at (fun pc => false) 400 rfl)
/-! H.lot -/
set_option maxRecDepth 100000 in
theorem c_H_lot (σ : St) (a1 a2 a3 : Int32) : Cc 153 0 [vR 88 0, vI a1, vI a2, vI a3] σ = cI (Cc 44 0 [vR 32 4, vI a1] σ) (fun x2 σ1 => if x2 = 0 then some (some (vI (-2)), σ1) else cI (Cc 44 0 [vR 32 0, vI a2] σ1) (fun x4 σ3 => if x4 = 0 then some (some (vI (-2)), σ3) else cI (Cc 184 0 [vI a3] σ3) (fun x6 σ5 => if x6 = 0 then some (some (vI (-2)), σ5) else cI (Cc 199 0 [vI (gI σ5 32 4 2), vI (gI σ5 32 4 2)] σ5) (fun x8 σ7 => cI (Cc 84 0 [vR 56 0, vI a1, vI a2] σ7) (fun x10 σ9 => cL (Cc 203 0 [vL (Int32.toInt64 x10), vL (Int32.toInt64 x8), vI a3] σ9) (fun x12 σ11 => some (some (vI (Int64.toInt32 x12)), σ11))))))) :=
  (Cc_eq _ _ _ _).trans (U_at (fun pc => false) 400 rfl)
/-! H.share -/
set_option maxRecDepth 100000 in
theorem c_H_share (σ : St) (a1 a2 : Int32) : Cc 154 0 [vR 88 0, vI a1, vI a2] σ = cI (Cc 44 0 [vR 32 0, vI a1] σ) (fun x2 σ1 => if x2 = 0 then some (some (vI (-2)), σ1) else cI (Cc 184 0 [vI a2] σ1) (fun x4 σ3 => if x4 = 0 then some (some (vI (-2)), σ3) else cI (Cc 108 0 [vR 72 0, vI a1] σ3) (fun x6 σ5 => cL (Cc 203 0 [vL (Int32.toInt64 x6), vL 60, vI a2] σ5) (fun x8 σ7 => some (some (vI (Int64.toInt32 x8)), σ7))))) :=
  (Cc_eq _ _ _ _).trans (U_at (fun pc => false) 400 rfl)
/-! H.all -/
set_option maxRecDepth 100000 in
theorem c_H_all (σ : St) (a1 : Int32) : Cc 155 0 [vR 88 0, vI a1] σ = cI (Cc 70 0 [vR 48 0] σ) (fun x2 σ1 => if x2 = 0 then some (some (vI (-2)), σ1) else cI (Cc 51 0 [vR 32 0] σ1) (fun x4 σ3 => if (a1 &&& (x4 ^^^ (-1 : Int32))) = 0 then cI (Cc 104 0 [vR 72 0, vI a1] σ3) (fun x6 σ5 => cI (Cc 76 0 [vR 48 0, vI x6] σ5) (fun x8 σ7 => some (some (vI x8), σ7))) else some (some (vI (-2)), σ3))) :=
  (Cc_eq _ _ _ _).trans (U_at (fun pc => false) 400 rfl)
/-! H.watch -/
set_option maxRecDepth 100000 in
theorem c_H_watch (σ : St) : Cc 156 0 [vR 88 0] σ = cI (Cc 70 0 [vR 48 0] σ) (fun x2 σ1 => if x2 = 0 then some (some (vI (-2)), σ1) else cI (Cc 109 0 [vR 72 0] σ1) (fun x4 σ3 => cI (Cc 371 0 [vI x4] σ3) (fun x6 σ5 => some (some (vI x6), σ5)))) :=
  (Cc_eq _ _ _ _).trans (U_at (fun pc => false) 400 rfl)
/-! H.watches -/
set_option maxRecDepth 100000 in
theorem c_H_watches (σ : St) : Cc 157 0 [vR 88 0] σ = cI (Cc 70 0 [vR 48 0] σ) (fun x2 σ1 => if x2 = 0 then some (some (vI (-2)), σ1) else cI (Cc 109 0 [vR 72 0] σ1) (fun x4 σ3 => some (some (vI x4), σ3))) :=
  (Cc_eq _ _ _ _).trans (U_at (fun pc => false) 400 rfl)
/-! H.firsts -/
set_option maxRecDepth 100000 in
theorem c_H_firsts (σ : St) (a1 a2 : Int32) : Cc 158 0 [vR 88 0, vI a1, vI a2] σ = cI (Cc 193 0 [vR 88 0, vI a1, vI a2] σ) (fun x2 σ1 => if x2 = 0 then ix a1 4 (fun k3 => cI (Cc 9 0 [vR 8 0, vR 80 k3, vI a2] σ1) (fun x5 σ4 => some (some (vI x5), σ4))) else some (some (vI x2), σ1)) :=
  (Cc_eq _ _ _ _).trans (U_at (fun pc => false) 400 rfl)
/-! H.ask -/
set_option maxRecDepth 100000 in
theorem c_H_ask (σ : St) (a1 a2 : Int32) : Cc 159 0 [vR 88 0, vI a1, vI a2] σ = cI (Cc 193 0 [vR 88 0, vI a1, vI a2] σ) (fun x2 σ1 => if x2 = 0 then ix a1 4 (fun k3 => cV (Cc 11 0 [vR 8 0, vR 80 k3, vI a2] σ1) (fun σ4 => cI (Cc 13 0 [vR 8 0] σ4) (fun x6 σ5 => some (some (vI x6), σ5)))) else some (some (vI x2), σ1)) :=
  (Cc_eq _ _ _ _).trans (U_at (fun pc => false) 400 rfl)
/-! H.leaves -/
set_option maxRecDepth 100000 in
theorem c_H_leaves (σ : St) (a1 a2 : Int32) : Cc 160 0 [vR 88 0, vI a1, vI a2] σ = cI (Cc 193 0 [vR 88 0, vI a1, vI a2] σ) (fun x2 σ1 => if x2 = 0 then ix a1 4 (fun k3 => cV (Cc 11 0 [vR 8 0, vR 80 k3, vI a2] σ1) (fun σ4 => cI (Cc 13 0 [vR 8 0] σ4) (fun x6 σ5 => if x6 = (-1 : Int32) then some (some (vI (gI σ5 8 0 3)), σ5) else cI (Cc 14 0 [vR 8 0, vI x6] σ5) (fun x8 σ7 => some (some (vI x8), σ7))))) else some (some (vI x2), σ1)) :=
  (Cc_eq _ _ _ _).trans (U_at (fun pc => false) 400 rfl)
/-! H.laws -/
set_option maxRecDepth 100000 in
theorem c_H_laws (σ : St) (a1 a2 : Int32) : Cc 161 0 [vR 88 0, vI a1, vI a2] σ = cI (Cc 193 0 [vR 88 0, vI a1, vI a2] σ) (fun x2 σ1 => if x2 = 0 then ix a1 4 (fun k3 => cI (Cc 10 0 [vR 8 0, vR 80 k3, vI a2] σ1) (fun x5 σ4 => some (some (vI x5), σ4))) else some (some (vI x2), σ1)) :=
  (Cc_eq _ _ _ _).trans (U_at (fun pc => false) 400 rfl)
/-! H.by -/
set_option maxRecDepth 100000 in
theorem c_H_by (σ : St) (a1 : Int32) : Cc 162 0 [vR 88 0, vI a1] σ = cI (Cc 70 0 [vR 48 0] σ) (fun x2 σ1 => if x2 = 0 then some (some (vI (-2)), σ1) else cI (Cc 186 0 [vI a1] σ1) (fun x4 σ3 => if x4 = 0 then some (some (vI (-2)), σ3) else cI (Cc 194 0 [vR 88 0, vI a1] σ3) (fun x6 σ5 => some (some (vI x6), σ5)))) :=
  (Cc_eq _ _ _ _).trans (U_at (fun pc => false) 400 rfl)
/-! H.law -/
set_option maxRecDepth 100000 in
theorem c_H_law (σ : St) : Cc 163 0 [vR 88 0] σ = cI (Cc 70 0 [vR 48 0] σ) (fun x2 σ1 => if x2 = 0 then some (some (vI (-2)), σ1) else cI (Cc 194 0 [vR 88 0, vI 0] σ1) (fun x4 σ3 => Vv 163 0 23 [some (vR 88 0), some (vI 0), some (vI x4), some (vI 1), none] [] σ3)) :=
  (Cc_eq _ _ _ _).trans (U_at (fun pc => Nat.beq pc 23) 400 rfl)
set_option maxRecDepth 100000 in
theorem v_H_law_23 (σ : St) (l1 l2 l3 : Int32) : Vv 163 0 23 [some (vR 88 0), some (vI l1), some (vI l2), some (vI l3), none] [] σ = if l3 < (4 : Int32) then cI (Cc 194 0 [vR 88 0, vI l3] σ) (fun x2 σ1 => if x2 ≤ l2 then Vv 163 0 23 [some (vR 88 0), some (vI l1), some (vI l2), some (vI (l3 + 1)), none] [] σ1 else Vv 163 0 23 [some (vR 88 0), some (vI l3), some (vI x2), some (vI (l3 + 1)), none] [] σ1) else some (some (vI l1), σ) :=
  U_at (fun pc => Nat.beq pc 23) 400 rfl
/-! H.fell -/
set_option maxRecDepth 100000 in
theorem c_H_fell (σ : St) : Cc 164 0 [vR 88 0] σ = cI (Cc 70 0 [vR 48 0] σ) (fun x2 σ1 => if x2 = 0 then some (some (vI (-2)), σ1) else cI (Cc 43 0 [vR 24 0] σ1) (fun x4 σ3 => Vv 164 0 25 [some (vR 88 0), some (vI (-1)), some (vI x4), some (vI 0), none] [] σ3)) :=
  (Cc_eq _ _ _ _).trans (U_at (fun pc => Nat.beq pc 25) 400 rfl)
set_option maxRecDepth 100000 in
theorem v_H_fell_25 (σ : St) (l1 l2 l3 : Int32) : Vv 164 0 25 [some (vR 88 0), some (vI l1), some (vI l2), some (vI l3), none] [] σ = if l3 < (gI σ 32 2 2) then cI (Cc 73 0 [vR 48 0, vI l3] σ) (fun x2 σ1 => if x2 = 0 then cI (Cc 195 0 [vR 88 0, vI l3] σ1) (fun x4 σ3 => if x4 ≤ l2 then Vv 164 0 25 [some (vR 88 0), some (vI l1), some (vI l2), some (vI (l3 + 1)), none] [] σ3 else Vv 164 0 25 [some (vR 88 0), some (vI l3), some (vI x4), some (vI (l3 + 1)), none] [] σ3) else if l2 ≤ l2 then Vv 164 0 25 [some (vR 88 0), some (vI l1), some (vI l2), some (vI (l3 + 1)), none] [] σ1 else Vv 164 0 25 [some (vR 88 0), some (vI l3), some (vI l2), some (vI (l3 + 1)), none] [] σ1) else some (some (vI l1), σ) :=
  U_at (fun pc => Nat.beq pc 25) 400 rfl
/-! H.rests -/
set_option maxRecDepth 100000 in
theorem c_H_rests (σ : St) (a1 a2 : Int32) : Cc 165 0 [vR 88 0, vI a1, vI a2] σ = cI (Cc 189 0 [vR 88 0, vI a1, vI a2] σ) (fun x2 σ1 => if x2 = 0 then some (some (vI (-2)), σ1) else Vv 165 0 17 [some (vR 88 0), some (vI a1), some (vI a2), some (vI 0), some (vI 0), none, none, none, none] [] σ1) :=
  (Cc_eq _ _ _ _).trans (U_at (fun pc => Nat.beq pc 17 || Nat.beq pc 35 || Nat.beq pc 67 || Nat.beq pc 99) 400 rfl)
set_option maxRecDepth 100000 in
theorem v_H_rests_17 (σ : St) (l1 l2 l3 l4 : Int32) : Vv 165 0 17 [some (vR 88 0), some (vI l1), some (vI l2), some (vI l3), some (vI l4), none, none, none, none] [] σ = if l4 < (4 : Int32) then Vv 165 0 35 [some (vR 88 0), some (vI l1), some (vI l2), some (vI l3), some (vI l4), some (vI (l4 &&& (1 : Int32))), some (vI (l4 >>> ((1 : Int32) &&& 31))), none, none] [] σ else some (some (vI l3), σ) :=
  U_at (fun pc => Nat.beq pc 17 || Nat.beq pc 35 || Nat.beq pc 67 || Nat.beq pc 99) 400 rfl
set_option maxRecDepth 100000 in
theorem v_H_rests_35 (σ : St) (l1 l2 l3 l4 l5 l6 : Int32) : Vv 165 0 35 [some (vR 88 0), some (vI l1), some (vI l2), some (vI l3), some (vI l4), some (vI l5), some (vI l6), none, none] [] σ = cI (Cc 196 0 [vR 88 0, vI l1, vI l2, vI ((1 : Int32) - l5), vI l6] σ) (fun x2 σ1 => cI (Cc 196 0 [vR 88 0, vI l1, vI l2, vI l5, vI l6] σ1) (fun x4 σ3 => if x2 ≤ x4 then Vv 165 0 67 [some (vR 88 0), some (vI l1), some (vI l2), some (vI l3), some (vI l4), some (vI l5), some (vI l6), some (vI 0), none] [] σ3 else Vv 165 0 67 [some (vR 88 0), some (vI l1), some (vI l2), some (vI l3), some (vI l4), some (vI l5), some (vI l6), some (vI 1), none] [] σ3)) :=
  U_at (fun pc => Nat.beq pc 17 || Nat.beq pc 35 || Nat.beq pc 67 || Nat.beq pc 99) 400 rfl
set_option maxRecDepth 100000 in
theorem v_H_rests_67 (σ : St) (l1 l2 l3 l4 l5 l6 l7 : Int32) : Vv 165 0 67 [some (vR 88 0), some (vI l1), some (vI l2), some (vI l3), some (vI l4), some (vI l5), some (vI l6), some (vI l7), none] [] σ = cI (Cc 196 0 [vR 88 0, vI l2, vI l1, vI ((1 : Int32) - l6), vI l5] σ) (fun x2 σ1 => cI (Cc 196 0 [vR 88 0, vI l2, vI l1, vI l6, vI l5] σ1) (fun x4 σ3 => if x2 ≤ x4 then Vv 165 0 99 [some (vR 88 0), some (vI l1), some (vI l2), some (vI l3), some (vI l4), some (vI l5), some (vI l6), some (vI l7), some (vI 0)] [] σ3 else Vv 165 0 99 [some (vR 88 0), some (vI l1), some (vI l2), some (vI l3), some (vI l4), some (vI l5), some (vI l6), some (vI l7), some (vI 1)] [] σ3)) :=
  U_at (fun pc => Nat.beq pc 17 || Nat.beq pc 35 || Nat.beq pc 67 || Nat.beq pc 99) 400 rfl
set_option maxRecDepth 100000 in
theorem v_H_rests_99 (σ : St) (l1 l2 l3 l4 l5 l6 l7 l8 : Int32) : Vv 165 0 99 [some (vR 88 0), some (vI l1), some (vI l2), some (vI l3), some (vI l4), some (vI l5), some (vI l6), some (vI l7), some (vI l8)] [] σ = if l7 = 0 then if l8 = 0 then Vv 165 0 17 [some (vR 88 0), some (vI l1), some (vI l2), some (vI (l3 ||| ((1 : Int32) <<< (l4 &&& 31)))), some (vI (l4 + 1)), none, none, none, none] [] σ else Vv 165 0 17 [some (vR 88 0), some (vI l1), some (vI l2), some (vI l3), some (vI (l4 + 1)), none, none, none, none] [] σ else Vv 165 0 17 [some (vR 88 0), some (vI l1), some (vI l2), some (vI l3), some (vI (l4 + 1)), none, none, none, none] [] σ :=
  U_at (fun pc => Nat.beq pc 17 || Nat.beq pc 35 || Nat.beq pc 67 || Nat.beq pc 99) 400 rfl
/-! H.gets -/
set_option maxRecDepth 100000 in
theorem c_H_gets (σ : St) (a1 a2 a3 a4 : Int32) : Cc 166 0 [vR 88 0, vI a1, vI a2, vI a3, vI a4] σ = cI (Cc 189 0 [vR 88 0, vI a1, vI a2] σ) (fun x2 σ1 => if x2 = 0 then some (some (vI (-1000)), σ1) else cI (Cc 184 0 [vI a3] σ1) (fun x4 σ3 => if x4 = 0 then some (some (vI (-1000)), σ3) else cI (Cc 184 0 [vI a4] σ3) (fun x6 σ5 => if x6 = 0 then some (some (vI (-1000)), σ5) else cI (Cc 196 0 [vR 88 0, vI a1, vI a2, vI a3, vI a4] σ5) (fun x8 σ7 => some (some (vI x8), σ7))))) :=
  (Cc_eq _ _ _ _).trans (U_at (fun pc => false) 400 rfl)
/-! H.chance -/
set_option maxRecDepth 100000 in
theorem c_H_chance (σ : St) (a1 a2 a3 a4 : Int32) : Cc 167 0 [vR 88 0, vI a1, vI a2, vI a3, vI a4] σ = cI (Cc 190 0 [vR 88 0, vI a1, vI a3, vI a4] σ) (fun x2 σ1 => if x2 = 0 then some (some (vI (-2)), σ1) else cI (Cc 44 0 [vR 32 0, vI a2] σ1) (fun x4 σ3 => if x4 = 0 then some (some (vI (-2)), σ3) else cV (Cc 18 0 [vR 16 0, vI a1, vI a3] σ3) (fun σ5 => cL (Cc 21 0 [vR 16 0, vI a2] σ5) (fun x7 σ6 => cL (Cc 17 0 [vI a3] σ6) (fun x9 σ8 => cL (Cc 203 0 [vL x7, vL x9, vI a4] σ8) (fun x11 σ10 => some (some (vI (Int64.toInt32 x11)), σ10))))))) :=
  (Cc_eq _ _ _ _).trans (U_at (fun pc => false) 400 rfl)
/-! H.mean -/
set_option maxRecDepth 100000 in
theorem c_H_mean (σ : St) (a1 a2 a3 : Int32) : Cc 168 0 [vR 88 0, vI a1, vI a2, vI a3] σ = cI (Cc 190 0 [vR 88 0, vI a1, vI a2, vI a3] σ) (fun x2 σ1 => if x2 = 0 then some (some (vL (-2)), σ1) else cV (Cc 18 0 [vR 16 0, vI a1, vI a2] σ1) (fun σ3 => Vv 168 0 29 [some (vR 88 0), some (vI a1), some (vI a2), some (vI a3), some (vL 0), none, some (vI 0)] [] σ3)) :=
  (Cc_eq _ _ _ _).trans (U_at (fun pc => Nat.beq pc 29) 400 rfl)
set_option maxRecDepth 100000 in
theorem v_H_mean_29 (σ : St) (l1 l2 l3 l6 : Int32) (l4 : Int64) : Vv 168 0 29 [some (vR 88 0), some (vI l1), some (vI l2), some (vI l3), some (vL l4), none, some (vI l6)] [] σ = if l6 < (gI σ 32 0 2) then cL (Cc 21 0 [vR 16 0, vI l6] σ) (fun x2 σ1 => cI (Cc 101 0 [vR 72 0, vI l6] σ1) (fun x4 σ3 => Vv 168 0 29 [some (vR 88 0), some (vI l1), some (vI l2), some (vI l3), some (vL (l4 + (x2 * (Int32.toInt64 x4)))), none, some (vI (l6 + 1))] [] σ3)) else cL (Cc 17 0 [vI l2] σ) (fun x6 σ5 => cL (Cc 203 0 [vL l4, vL x6, vI l3] σ5) (fun x8 σ7 => some (some (vL x8), σ7))) :=
  U_at (fun pc => Nat.beq pc 29) 400 rfl
/-! H.swap -/
set_option maxRecDepth 100000 in
theorem c_H_swap (σ : St) (a1 a2 a3 : Int32) : Cc 169 0 [vR 88 0, vI a1, vI a2, vI a3] σ = cI (Cc 189 0 [vR 88 0, vI a1, vI a2] σ) (fun x2 σ1 => if x2 = 0 then some (some (vI (-2)), σ1) else cI (Cc 71 0 [vR 48 0, vI a3] σ1) (fun x4 σ3 => if x4 = 0 then some (some (vI (-2)), σ3) else if a3 = (gI σ3 48 0 0) then some (some (vI (-2)), σ3) else cI (Cc 1 0 [vR 0 0] σ3) (fun x6 σ5 => if x6 = 0 then cV (Cc 2 0 [vR 0 0, vI a1, vI a2, vI a3] σ5) (fun σ7 => cV (Cc 182 0 [vR 88 0] σ7) (fun σ8 => cI (Cc 35 0 [vR 24 0, vI a1, vI (gI σ8 48 0 0)] σ8) (fun x10 σ9 => some (some (vI x10), σ9)))) else some (some (vI (-5)), σ5)))) :=
  (Cc_eq _ _ _ _).trans (U_at (fun pc => false) 400 rfl)
/-! H.clear -/
set_option maxRecDepth 100000 in
theorem c_H_clear (σ : St) (a1 : Int32) : Cc 170 0 [vR 88 0, vI a1] σ = cI (Cc 44 0 [vR 32 2, vI a1] σ) (fun x2 σ1 => if x2 = 0 then some (some (vI (-2)), σ1) else cI (Cc 1 0 [vR 0 0] σ1) (fun x4 σ3 => if x4 = 0 then cI (Cc 73 0 [vR 48 0, vI a1] σ3) (fun x6 σ5 => if x6 = 0 then cV (Cc 3 0 [vR 0 0, vI a1] σ5) (fun σ7 => cV (Cc 182 0 [vR 88 0] σ7) (fun σ8 => some (some (vI 1), σ8))) else cV (Cc 3 0 [vR 0 0, vI a1] σ5) (fun σ9 => cV (Cc 182 0 [vR 88 0] σ9) (fun σ10 => some (some (vI 0), σ10)))) else some (some (vI (-5)), σ3))) :=
  (Cc_eq _ _ _ _).trans (U_at (fun pc => false) 400 rfl)
/-! H.undo -/
set_option maxRecDepth 100000 in
theorem c_H_undo (σ : St) : Cc 171 0 [vR 88 0] σ = cI (Cc 70 0 [vR 48 0] σ) (fun x2 σ1 => if x2 = 0 then some (some (vI (-2)), σ1) else if (gI σ1 0 0 3) = 0 then some (some (vI (-5)), σ1) else cV (Cc 182 0 [vR 88 0] (sI σ1 0 0 3 ((gI σ1 0 0 3) - (1 : Int32)))) (fun σ3 => some (some (vI (gI σ3 0 0 3)), σ3))) :=
  (Cc_eq _ _ _ _).trans (U_at (fun pc => false) 400 rfl)
/-! H.anew -/
set_option maxRecDepth 100000 in
theorem c_H_anew (σ : St) : Cc 172 0 [vR 88 0] σ = cI (Cc 70 0 [vR 48 0] σ) (fun x2 σ1 => if x2 = 0 then some (some (vI (-2)), σ1) else cV (Cc 182 0 [vR 88 0] (sI σ1 0 0 3 0)) (fun σ3 => some (some (vI (gI σ1 0 0 3)), σ3))) :=
  (Cc_eq _ _ _ _).trans (U_at (fun pc => false) 400 rfl)
/-! H.drawn -/
set_option maxRecDepth 100000 in
theorem c_H_drawn (σ : St) (a1 a2 : Int32) : Cc 173 0 [vR 88 0, vI a1, vI a2] σ = cI (Cc 70 0 [vR 48 0] σ) (fun x2 σ1 => if x2 = 0 then some (some (vI (-2)), σ1) else cI (Cc 187 0 [vI a1] σ1) (fun x4 σ3 => if x4 = 0 then some (some (vI (-2)), σ3) else cI (Cc 184 0 [vI a2] σ3) (fun x6 σ5 => if x6 = 0 then some (some (vI (-2)), σ5) else cI (Cc 22 0 [vR 16 0, vI a1] σ5) (fun x8 σ7 => if a2 = 0 then some (some (vI x8), σ7) else cV (Cc 23 0 [vR 24 1] σ7) (fun σ9 => cV (Cc 25 0 [vR 24 1, vI (gI σ9 48 0 1), vI x8] σ9) (fun σ10 => cI (Cc 43 0 [vR 24 1] σ10) (fun x12 σ11 => some (some (vI x12), σ11)))))))) :=
  (Cc_eq _ _ _ _).trans (U_at (fun pc => false) 400 rfl)
/-! H.luck -/
set_option maxRecDepth 100000 in
theorem c_H_luck (σ : St) (a1 a2 a3 : Int32) : Cc 174 0 [vR 88 0, vI a1, vI a2, vI a3] σ = cI (Cc 44 0 [vR 32 4, vI a3] σ) (fun x2 σ1 => if x2 = 0 then some (some (vI (-2)), σ1) else cI (Cc 187 0 [vI a1] σ1) (fun x4 σ3 => if x4 = 0 then some (some (vI (-2)), σ3) else if a2 < (1 : Int32) then some (some (vI (-2)), σ3) else if a2 ≤ (20 : Int32) then Vv 174 0 41 [some (vR 88 0), some (vI a1), some (vI a2), some (vI a3), some (vI 0), some (vI 0)] [] σ3 else some (some (vI (-2)), σ3))) :=
  (Cc_eq _ _ _ _).trans (U_at (fun pc => Nat.beq pc 41) 400 rfl)
set_option maxRecDepth 100000 in
theorem v_H_luck_41 (σ : St) (l1 l2 l3 l4 l5 : Int32) : Vv 174 0 41 [some (vR 88 0), some (vI l1), some (vI l2), some (vI l3), some (vI l4), some (vI l5)] [] σ = if l5 < l2 then cV (Cc 23 0 [vR 24 1] σ) (fun σ1 => cI (Cc 22 0 [vR 16 0, vI (l1 + l5)] σ1) (fun x3 σ2 => cV (Cc 25 0 [vR 24 1, vI (gI σ1 48 0 1), vI x3] σ2) (fun σ4 => cI (Cc 39 0 [vR 24 1, vI l3] σ4) (fun x6 σ5 => if x6 = (-1 : Int32) then Vv 174 0 41 [some (vR 88 0), some (vI l1), some (vI l2), some (vI l3), some (vI l4), some (vI (l5 + 1))] [] σ5 else Vv 174 0 41 [some (vR 88 0), some (vI l1), some (vI l2), some (vI l3), some (vI (l4 + 1)), some (vI (l5 + 1))] [] σ5)))) else some (some (vI l4), σ) :=
  U_at (fun pc => Nat.beq pc 41) 400 rfl
/-! H.rate -/
set_option maxRecDepth 100000 in
theorem c_H_rate (σ : St) (a1 a2 : Int32) : Cc 175 0 [vR 88 0, vI a1, vI a2] σ = cI (Cc 44 0 [vR 32 1, vI a1] σ) (fun x2 σ1 => if x2 = 0 then some (some (vI (-2)), σ1) else if a2 < 0 then some (some (vI (-2)), σ1) else if a2 ≤ (99 : Int32) then if (gI σ1 0 0 3) ≤ 0 then cI (Cc 74 0 [vR 48 0, vI a1] σ1) (fun x4 σ3 => cV (Cc 75 0 [vR 48 0, vI a1, vI a2] σ3) (fun σ5 => cV (Cc 182 0 [vR 88 0] σ5) (fun σ6 => some (some (vI x4), σ6)))) else some (some (vI (-5)), σ1) else some (some (vI (-2)), σ1)) :=
  (Cc_eq _ _ _ _).trans (U_at (fun pc => false) 400 rfl)
/-! H.count -/
set_option maxRecDepth 100000 in
theorem c_H_count (σ : St) (a1 : Int32) : Cc 176 0 [vR 88 0, vI a1] σ = if Int32.toInt a1 = 0 then some (some (vI (gI σ 48 0 0)), σ) else if Int32.toInt a1 = 0 + 1 then some (some (vI (gI σ 48 0 1)), σ) else if Int32.toInt a1 = 0 + 1 + 1 then some (some (vI (gI σ 48 0 2)), σ) else if Int32.toInt a1 = 0 + 1 + 1 + 1 then some (some (vI (gI σ 32 0 2)), σ) else if Int32.toInt a1 = 0 + 1 + 1 + 1 + 1 then some (some (vI (gI σ 32 1 2)), σ) else if Int32.toInt a1 = 0 + 1 + 1 + 1 + 1 + 1 then some (some (vI (gI σ 32 2 2)), σ) else if Int32.toInt a1 = 0 + 1 + 1 + 1 + 1 + 1 + 1 then some (some (vI (gI σ 32 3 2)), σ) else if Int32.toInt a1 = 0 + 1 + 1 + 1 + 1 + 1 + 1 + 1 then some (some (vI (gI σ 32 4 2)), σ) else if Int32.toInt a1 = 0 + 1 + 1 + 1 + 1 + 1 + 1 + 1 + 1 then some (some (vI (gI σ 0 0 3)), σ) else if Int32.toInt a1 = 0 + 1 + 1 + 1 + 1 + 1 + 1 + 1 + 1 + 1 then some (some (vI (gI σ 48 0 3)), σ) else if Int32.toInt a1 = 0 + 1 + 1 + 1 + 1 + 1 + 1 + 1 + 1 + 1 + 1 then some (some (vI (gI σ 40 0 2)), σ) else if Int32.toInt a1 = 0 + 1 + 1 + 1 + 1 + 1 + 1 + 1 + 1 + 1 + 1 + 1 then cI (Cc 198 0 [vR 88 0] σ) (fun x2 σ1 => some (some (vI x2), σ1)) else some (some (vI (-1)), σ) :=
  (Cc_eq _ _ _ _).trans (U_at (fun pc => false) 400 rfl)
/-! H.image -/
set_option maxRecDepth 100000 in
theorem c_H_image (σ : St) (a1 : Int32) : Cc 177 0 [vR 88 0, vI a1] σ = if a1 < 0 then some (some (vI (-2)), σ) else if a1 < (3 : Int32) then ix a1 3 (fun k1 => cV (Cc 80 0 [vR 48 (2 + k1), vR 48 0] σ) (fun σ2 => if (1 : Int32) = 0 ∨ (1 : Int32) = 1 then ix a1 3 (fun k3 => some (some (vI 0), sI σ2 1708 0 k3 1)) else none)) else some (some (vI (-2)), σ) :=
  (Cc_eq _ _ _ _).trans (U_at (fun pc => false) 400 rfl)
/-! H.back -/
set_option maxRecDepth 100000 in
theorem c_H_back (σ : St) (a1 : Int32) : Cc 178 0 [vR 88 0, vI a1] σ = if a1 < 0 then some (some (vI (-2)), σ) else if a1 < (3 : Int32) then ix a1 3 (fun k1 => if (gI σ 1708 0 k1) = 0 then some (some (vI (-6)), σ) else ix a1 3 (fun k2 => cV (Cc 80 0 [vR 48 0, vR 48 (2 + k2)] σ) (fun σ3 => cV (Cc 182 0 [vR 88 0] σ3) (fun σ4 => some (some (vI 0), σ4))))) else some (some (vI (-2)), σ) :=
  (Cc_eq _ _ _ _).trans (U_at (fun pc => false) 400 rfl)
/-! H.row -/
set_option maxRecDepth 100000 in
theorem c_H_row (σ : St) (a1 a2 a3 : Int32) : Cc 179 0 [vR 88 0, vI a1, vI a2, vI a3] σ = cI (Cc 185 0 [vI a1] σ) (fun x2 σ1 => if x2 = 0 then some (some (vI (-2)), σ1) else if a2 < 0 then some (some (vI (-2)), σ1) else if a2 < (4 : Int32) then if a3 ≤ (60 : Int32) then if a3 < 0 then some (some (vI (-3)), σ1) else ix a1 4 (fun k3 => cV (Cc 110 0 [vR 80 k3, vI a2, vI a3] σ1) (fun σ4 => some (some (vI 0), σ4))) else some (some (vI (-2)), σ1) else some (some (vI (-2)), σ1)) :=
  (Cc_eq _ _ _ _).trans (U_at (fun pc => false) 400 rfl)
/-! H.write -/
set_option maxRecDepth 100000 in
theorem c_H_write (σ : St) (a1 a2 : Int32) (a3 : Int64) : Cc 180 0 [vR 88 0, vI a1, vI a2, vL a3] σ = cI (Cc 185 0 [vI a1] σ) (fun x2 σ1 => if x2 = 0 then some (some (vI (-2)), σ1) else ix a1 4 (fun k3 => if (gI σ1 80 k3 1) = 0 then some (some (vI (-6)), σ1) else ix a1 4 (fun k4 => cI (Cc 111 0 [vR 80 k4, vI a2, vI 1] σ1) (fun x6 σ5 => if x6 = 0 then some (some (vI (-7)), σ5) else ix a1 4 (fun k7 => cV (Cc 113 0 [vR 80 k7, vI a2, vL a3] σ5) (fun σ8 => some (some (vI 0), σ8))))))) :=
  (Cc_eq _ _ _ _).trans (U_at (fun pc => false) 400 rfl)
/-! H.paste -/
set_option maxRecDepth 100000 in
theorem c_H_paste (σ : St) (a1 a2 a3 a4 a5 : Int32) : Cc 181 0 [vR 88 0, vI a1, vI a2, vI a3, vI a4, vI a5] σ = cI (Cc 185 0 [vI a1] σ) (fun x2 σ1 => if x2 = 0 then some (some (vI (-2)), σ1) else cI (Cc 185 0 [vI a3] σ1) (fun x4 σ3 => if x4 = 0 then some (some (vI (-2)), σ3) else ix a1 4 (fun k5 => ix a3 4 (fun k6 => if (gI σ3 80 k5 1) = 0 then some (some (vI (-6)), σ3) else if (gI σ3 80 k6 1) = 0 then some (some (vI (-6)), σ3) else if (gI σ3 80 k5 2) = (gI σ3 80 k6 2) then cI (Cc 111 0 [vR 80 k5, vI a2, vI a5] σ3) (fun x8 σ7 => if x8 = 0 then some (some (vI (-7)), σ7) else cI (Cc 111 0 [vR 80 k6, vI a4, vI a5] σ7) (fun x10 σ9 => if x10 = 0 then some (some (vI (-7)), σ9) else if 0 ≤ Int32.toInt a5 ∧ 0 ≤ Int32.toInt a2 ∧ 0 ≤ Int32.toInt a4 ∧ Int32.toInt a2 + Int32.toInt a5 ≤ ((60 : Nat) : Int) ∧ Int32.toInt a4 + Int32.toInt a5 ≤ ((60 : Nat) : Int) then some (some (vI 0), cpL σ9 30906 k5 (Int32.toNatClampNeg a2) 30906 k6 (Int32.toNatClampNeg a4) (Int32.toNatClampNeg a5)) else none)) else some (some (vI (-8)), σ3))))) :=
  (Cc_eq _ _ _ _).trans (U_at (fun pc => false) 400 rfl)
/-! H.lookAnew -/
set_option maxRecDepth 100000 in
theorem c_H_lookAnew (σ : St) : Cc 182 0 [vR 88 0] σ = cV (Cc 97 0 [vR 72 0, vI (-1)] σ) (fun σ1 => cV (Cc 23 0 [vR 24 0] σ1) (fun σ2 => cV (Cc 25 0 [vR 24 0, vI (gI σ2 48 0 1), vI (-1)] σ2) (fun σ3 => some (none, σ3)))) :=
  (Cc_eq _ _ _ _).trans (U_at (fun pc => false) 400 rfl)
/-! H.ofPair -/
set_option maxRecDepth 100000 in
theorem c_H_ofPair (σ : St) (a2 a3 : Int32) (i1 : Nat) : Cc 183 0 [vR 32 i1, vI a2, vI a3] σ = cI (Cc 44 0 [vR 32 i1, vI a2] σ) (fun x2 σ1 => if x2 = 0 then some (some (vI (-2)), σ1) else cI (Cc 184 0 [vI a3] σ1) (fun x4 σ3 => if x4 = 0 then some (some (vI (-2)), σ3) else if a3 = 0 then cI (Cc 47 0 [vR 32 i1, vI a2] σ3) (fun x6 σ5 => some (some (vI x6), σ5)) else cI (Cc 48 0 [vR 32 i1, vI a2] σ3) (fun x8 σ7 => some (some (vI x8), σ7)))) :=
  (Cc_eq _ _ _ _).trans (U_at (fun pc => false) 400 rfl)
/-! H.isOneOfTwo -/
set_option maxRecDepth 100000 in
theorem c_H_isOneOfTwo (σ : St) (a1 : Int32) : Cc 184 0 [vI a1] σ = if a1 = 0 then retZ 1 σ else if a1 = (1 : Int32) then retZ 1 σ else retZ 0 σ :=
  (Cc_eq _ _ _ _).trans (U_at (fun pc => false) 400 rfl)
/-! H.isSlot -/
set_option maxRecDepth 100000 in
theorem c_H_isSlot (σ : St) (a1 : Int32) : Cc 185 0 [vI a1] σ = if a1 < 0 then retZ 0 σ else if a1 < (4 : Int32) then retZ 1 σ else retZ 0 σ :=
  (Cc_eq _ _ _ _).trans (U_at (fun pc => false) 400 rfl)
/-! H.isLaw -/
set_option maxRecDepth 100000 in
theorem c_H_isLaw (σ : St) (a1 : Int32) : Cc 186 0 [vI a1] σ = if a1 < 0 then retZ 0 σ else if a1 < (4 : Int32) then retZ 1 σ else retZ 0 σ :=
  (Cc_eq _ _ _ _).trans (U_at (fun pc => false) 400 rfl)
/-! H.isSeed -/
set_option maxRecDepth 100000 in
theorem c_H_isSeed (σ : St) (a1 : Int32) : Cc 187 0 [vI a1] σ = if a1 < 0 then retZ 0 σ else if a1 ≤ (2000000000 : Int32) then retZ 1 σ else retZ 0 σ :=
  (Cc_eq _ _ _ _).trans (U_at (fun pc => false) 400 rfl)
/-! H.isLookerInYear -/
set_option maxRecDepth 100000 in
theorem c_H_isLookerInYear (σ : St) (a1 a2 : Int32) : Cc 188 0 [vR 88 0, vI a1, vI a2] σ = cI (Cc 44 0 [vR 32 4, vI a1] σ) (fun x2 σ1 => if x2 = 0 then retZ 0 σ1 else cI (Cc 71 0 [vR 48 0, vI a2] σ1) (fun x4 σ3 => if x4 = 0 then retZ 0 σ3 else retZ 1 σ3)) :=
  (Cc_eq _ _ _ _).trans (U_at (fun pc => false) 400 rfl)
/-! H.areTwoLookers -/
set_option maxRecDepth 100000 in
theorem c_H_areTwoLookers (σ : St) (a1 a2 : Int32) : Cc 189 0 [vR 88 0, vI a1, vI a2] σ = cI (Cc 44 0 [vR 32 4, vI a1] σ) (fun x2 σ1 => if x2 = 0 then retZ 0 σ1 else cI (Cc 44 0 [vR 32 4, vI a2] σ1) (fun x4 σ3 => if x4 = 0 then retZ 0 σ3 else if a1 = a2 then retZ 0 σ3 else retZ 1 σ3)) :=
  (Cc_eq _ _ _ _).trans (U_at (fun pc => false) 400 rfl)
/-! H.isChanceAsked -/
set_option maxRecDepth 100000 in
theorem c_H_isChanceAsked (σ : St) (a1 a2 a3 : Int32) : Cc 190 0 [vR 88 0, vI a1, vI a2, vI a3] σ = cI (Cc 188 0 [vR 88 0, vI a1, vI a2] σ) (fun x2 σ1 => if x2 = 0 then retZ 0 σ1 else if a2 < (1 : Int32) then retZ 0 σ1 else if a2 ≤ (8 : Int32) then cI (Cc 184 0 [vI a3] σ1) (fun x4 σ3 => if x4 = 0 then retZ 0 σ3 else retZ 1 σ3) else retZ 0 σ1) :=
  (Cc_eq _ _ _ _).trans (U_at (fun pc => false) 400 rfl)
/-! H.wouldTrade -/
set_option maxRecDepth 100000 in
theorem c_H_wouldTrade (σ : St) (a1 a2 a3 : Int32) : Cc 191 0 [vR 88 0, vI a1, vI a2, vI a3] σ = cI (Cc 48 0 [vR 32 4, vI a1] σ) (fun x2 σ1 => cI (Cc 38 0 [vR 24 0, vI a1, vI a3] σ1) (fun x4 σ3 => if x4 = 0 then cI (Cc 35 0 [vR 24 0, vI a2, vI a3] σ3) (fun x6 σ5 => cI (Cc 102 0 [vR 72 0, vI x6, vI x2] σ5) (fun x8 σ7 => if x8 = 0 then retZ 0 σ7 else retZ 1 σ7)) else retZ 0 σ3)) :=
  (Cc_eq _ _ _ _).trans (U_at (fun pc => false) 400 rfl)
/-! H.refuseGoal -/
set_option maxRecDepth 100000 in
theorem c_H_refuseGoal (σ : St) (a1 : Int32) : Cc 192 0 [vR 88 0, vI a1] σ = cI (Cc 185 0 [vI a1] σ) (fun x2 σ1 => if x2 = 0 then some (some (vI (-2)), σ1) else cI (Cc 70 0 [vR 48 0] σ1) (fun x4 σ3 => if x4 = 0 then some (some (vI (-2)), σ3) else ix a1 4 (fun k5 => if (gI σ3 80 k5 1) = 0 then some (some (vI (-6)), σ3) else ix a1 4 (fun k6 => cI (Cc 86 0 [vR 64 0, vR 80 k6] σ3) (fun x8 σ7 => if x8 = 0 then some (some (vI (-2)), σ7) else some (some (vI 0), σ7)))))) :=
  (Cc_eq _ _ _ _).trans (U_at (fun pc => false) 400 rfl)
/-! H.refuseBook -/
set_option maxRecDepth 100000 in
theorem c_H_refuseBook (σ : St) (a1 a2 : Int32) : Cc 193 0 [vR 88 0, vI a1, vI a2] σ = cI (Cc 185 0 [vI a1] σ) (fun x2 σ1 => if x2 = 0 then some (some (vI (-2)), σ1) else cI (Cc 44 0 [vR 32 4, vI a2] σ1) (fun x4 σ3 => if x4 = 0 then some (some (vI (-2)), σ3) else ix a1 4 (fun k5 => if (gI σ3 80 k5 1) = 0 then some (some (vI (-6)), σ3) else ix a1 4 (fun k6 => cI (Cc 8 0 [vR 8 0, vR 80 k6] σ3) (fun x8 σ7 => if x8 = 0 then some (some (vI (-2)), σ7) else some (some (vI 0), σ7)))))) :=
  (Cc_eq _ _ _ _).trans (U_at (fun pc => false) 400 rfl)
/-! H.joyByLaw -/
set_option maxRecDepth 100000 in
theorem c_H_joyByLaw (σ : St) (a1 : Int32) : Cc 194 0 [vR 88 0, vI a1] σ = cV (Cc 23 0 [vR 24 1] σ) (fun σ1 => cV (Cc 25 0 [vR 24 1, vI a1, vI (-1)] σ1) (fun σ2 => cI (Cc 43 0 [vR 24 1] σ2) (fun x4 σ3 => some (some (vI x4), σ3)))) :=
  (Cc_eq _ _ _ _).trans (U_at (fun pc => false) 400 rfl)
/-! H.joyWithoutFlue -/
set_option maxRecDepth 100000 in
theorem c_H_joyWithoutFlue (σ : St) (a1 : Int32) : Cc 195 0 [vR 88 0, vI a1] σ = cV (Cc 97 0 [vR 72 1, vI a1] σ) (fun σ1 => cV (Cc 23 0 [vR 24 2] σ1) (fun σ2 => cV (Cc 25 0 [vR 24 2, vI (gI σ2 48 0 1), vI (-1)] σ2) (fun σ3 => cI (Cc 43 0 [vR 24 2] σ3) (fun x5 σ4 => some (some (vI x5), σ4))))) :=
  (Cc_eq _ _ _ _).trans (U_at (fun pc => false) 400 rfl)
/-! H.gain -/
set_option maxRecDepth 100000 in
theorem c_H_gain (σ : St) (a1 a2 a3 a4 : Int32) : Cc 196 0 [vR 88 0, vI a1, vI a2, vI a3, vI a4] σ = cI (Cc 197 0 [vR 88 0, vI a1, vI a3] σ) (fun x2 σ1 => cI (Cc 197 0 [vR 88 0, vI a2, vI a4] σ1) (fun x4 σ3 => cI (Cc 76 0 [vR 48 0, vI (x2 &&& (x4 ^^^ (-1 : Int32)))] σ3) (fun x6 σ5 => cI (Cc 76 0 [vR 48 0, vI (x2 &&& x4)] σ5) (fun x8 σ7 => if (2 : Int32) = 0 then none else some (some (vI (x6 + (x8 / (2 : Int32)))), σ7))))) :=
  (Cc_eq _ _ _ _).trans (U_at (fun pc => false) 400 rfl)
/-! H.marksInGame -/
set_option maxRecDepth 100000 in
theorem c_H_marksInGame (σ : St) (a1 a2 : Int32) : Cc 197 0 [vR 88 0, vI a1, vI a2] σ = cI (Cc 47 0 [vR 32 4, vI a1] σ) (fun x2 σ1 => if a2 = (1 : Int32) then cI (Cc 51 0 [vR 32 0] σ1) (fun x4 σ3 => cI (Cc 78 0 [vR 48 0, vI x4, vI x2] σ3) (fun x6 σ5 => cI (Cc 100 0 [vR 72 0, vI x6] σ5) (fun x8 σ7 => some (some (vI x8), σ7)))) else cI (Cc 100 0 [vR 72 0, vI x2] σ1) (fun x10 σ9 => some (some (vI x10), σ9))) :=
  (Cc_eq _ _ _ _).trans (U_at (fun pc => false) 400 rfl)
/-! H.slotsHeld -/
set_option maxRecDepth 100000 in
theorem c_H_slotsHeld (σ : St) : Cc 198 0 [vR 88 0] σ = Vv 198 0 4 [some (vR 88 0), some (vI 0), some (vI 0)] [] σ :=
  (Cc_eq _ _ _ _).trans (U_at (fun pc => Nat.beq pc 4) 400 rfl)
set_option maxRecDepth 100000 in
theorem v_H_slotsHeld_4 (σ : St) (l1 l2 : Int32) : Vv 198 0 4 [some (vR 88 0), some (vI l1), some (vI l2)] [] σ = if l2 < (4 : Int32) then ix l2 4 (fun k1 => if (gI σ 80 k1 1) = 0 then Vv 198 0 4 [some (vR 88 0), some (vI l1), some (vI (l2 + 1))] [] σ else Vv 198 0 4 [some (vR 88 0), some (vI (l1 + 1)), some (vI (l2 + 1))] [] σ) else some (some (vI l1), σ) :=
  U_at (fun pc => Nat.beq pc 4) 400 rfl
/-! H.howManyRows -/
set_option maxRecDepth 100000 in
theorem c_H_howManyRows (σ : St) (a1 a2 : Int32) : Cc 199 0 [vI a1, vI a2] σ = Vv 199 0 4 [some (vI a1), some (vI a2), some (vI 1), some (vI 0)] [] σ :=
  (Cc_eq _ _ _ _).trans (U_at (fun pc => Nat.beq pc 4) 400 rfl)
set_option maxRecDepth 100000 in
theorem v_H_howManyRows_4 (σ : St) (l0 l1 l2 l3 : Int32) : Vv 199 0 4 [some (vI l0), some (vI l1), some (vI l2), some (vI l3)] [] σ = if l3 < l1 then Vv 199 0 4 [some (vI l0), some (vI l1), some (vI (l2 * (l0 - l3))), some (vI (l3 + 1))] [] σ else some (some (vI l2), σ) :=
  U_at (fun pc => Nat.beq pc 4) 400 rfl
/-! H.fillRow -/
set_option maxRecDepth 100000 in
theorem c_H_fillRow_0 (σ : St) (a2 a3 a4 : Int32) : Cc 200 0 [vR 3297 0, vI a2, vI a3, vI a4] σ = Vv 200 0 13 [some (vR 3297 0), some (vI a2), some (vI a3), some (vI a4), some (vI a4), some (vI ((if (Int32.ofNat 6) < a3 then (Int32.ofNat 6) else a3) - (1 : Int32))), none] [] σ :=
  (Cc_eq _ _ _ _).trans (U_at (fun pc => Nat.beq pc 13 || Nat.beq pc 70) 400 rfl)
set_option maxRecDepth 100000 in
theorem v_H_fillRow_13_0 (σ : St) (l1 l2 l3 l4 l5 : Int32) : Vv 200 0 13 [some (vR 3297 0), some (vI l1), some (vI l2), some (vI l3), some (vI l4), some (vI l5), none] [] σ = if l5 < 0 then Vv 200 0 70 [some (vR 3297 0), some (vI l1), some (vI l2), some (vI l3), some (vI l4), some (vI 0), some (vI 0)] [] σ else if (l1 - l5) ≤ 0 then ix l5 6 (fun k1 => if (l1 - l5) ≤ 0 then Vv 200 0 13 [some (vR 3297 0), some (vI l1), some (vI l2), some (vI l3), some (vI 0), some (vI (l5 + (-1))), none] [] (sI σ 3297 0 k1 0) else if (l1 - l5) = 0 then none else Vv 200 0 13 [some (vR 3297 0), some (vI l1), some (vI l2), some (vI l3), some (vI (l4 / (l1 - l5))), some (vI (l5 + (-1))), none] [] (sI σ 3297 0 k1 0)) else if (l1 - l5) = 0 then none else ix l5 6 (fun k2 => if (l1 - l5) ≤ 0 then Vv 200 0 13 [some (vR 3297 0), some (vI l1), some (vI l2), some (vI l3), some (vI 0), some (vI (l5 + (-1))), none] [] (sI σ 3297 0 k2 (l4 - l4 / (l1 - l5) * (l1 - l5))) else if (l1 - l5) = 0 then none else Vv 200 0 13 [some (vR 3297 0), some (vI l1), some (vI l2), some (vI l3), some (vI (l4 / (l1 - l5))), some (vI (l5 + (-1))), none] [] (sI σ 3297 0 k2 (l4 - l4 / (l1 - l5) * (l1 - l5)))) :=
  U_at (fun pc => Nat.beq pc 13 || Nat.beq pc 70) 400 rfl
set_option maxRecDepth 100000 in
theorem v_H_fillRow_70_0 (σ : St) (l1 l2 l3 l4 l5 l6 : Int32) : Vv 200 0 70 [some (vR 3297 0), some (vI l1), some (vI l2), some (vI l3), some (vI l4), some (vI l5), some (vI l6)] [] σ = if l6 < l2 then if l6 < (Int32.ofNat 6) then ix l6 6 (fun k1 => cI (Cc 201 0 [vI l5, vI l1, vI (gI σ 3297 0 k1)] σ) (fun x3 σ2 => ix l6 6 (fun k4 => ix l6 6 (fun k5 => Vv 200 0 70 [some (vR 3297 0), some (vI l1), some (vI l2), some (vI l3), some (vI l4), some (vI (l5 ||| ((1 : Int32) <<< ((gI (sI σ2 3297 0 k4 x3) 3297 0 k5) &&& 31)))), some (vI (l6 + 1))] [] (sI σ2 3297 0 k4 x3))))) else some (none, σ) else some (none, σ) :=
  U_at (fun pc => Nat.beq pc 13 || Nat.beq pc 70) 400 rfl
set_option maxRecDepth 100000 in
theorem c_H_fillRow_1 (σ : St) (a2 a3 a4 : Int32) : Cc 200 0 [vR 3329 0, vI a2, vI a3, vI a4] σ = Vv 200 0 13 [some (vR 3329 0), some (vI a2), some (vI a3), some (vI a4), some (vI a4), some (vI ((if (Int32.ofNat 6) < a3 then (Int32.ofNat 6) else a3) - (1 : Int32))), none] [] σ :=
  (Cc_eq _ _ _ _).trans (U_at (fun pc => Nat.beq pc 13 || Nat.beq pc 70) 400 rfl)
set_option maxRecDepth 100000 in
theorem v_H_fillRow_13_1 (σ : St) (l1 l2 l3 l4 l5 : Int32) : Vv 200 0 13 [some (vR 3329 0), some (vI l1), some (vI l2), some (vI l3), some (vI l4), some (vI l5), none] [] σ = if l5 < 0 then Vv 200 0 70 [some (vR 3329 0), some (vI l1), some (vI l2), some (vI l3), some (vI l4), some (vI 0), some (vI 0)] [] σ else if (l1 - l5) ≤ 0 then ix l5 6 (fun k1 => if (l1 - l5) ≤ 0 then Vv 200 0 13 [some (vR 3329 0), some (vI l1), some (vI l2), some (vI l3), some (vI 0), some (vI (l5 + (-1))), none] [] (sI σ 3329 0 k1 0) else if (l1 - l5) = 0 then none else Vv 200 0 13 [some (vR 3329 0), some (vI l1), some (vI l2), some (vI l3), some (vI (l4 / (l1 - l5))), some (vI (l5 + (-1))), none] [] (sI σ 3329 0 k1 0)) else if (l1 - l5) = 0 then none else ix l5 6 (fun k2 => if (l1 - l5) ≤ 0 then Vv 200 0 13 [some (vR 3329 0), some (vI l1), some (vI l2), some (vI l3), some (vI 0), some (vI (l5 + (-1))), none] [] (sI σ 3329 0 k2 (l4 - l4 / (l1 - l5) * (l1 - l5))) else if (l1 - l5) = 0 then none else Vv 200 0 13 [some (vR 3329 0), some (vI l1), some (vI l2), some (vI l3), some (vI (l4 / (l1 - l5))), some (vI (l5 + (-1))), none] [] (sI σ 3329 0 k2 (l4 - l4 / (l1 - l5) * (l1 - l5)))) :=
  U_at (fun pc => Nat.beq pc 13 || Nat.beq pc 70) 400 rfl
set_option maxRecDepth 100000 in
theorem v_H_fillRow_70_1 (σ : St) (l1 l2 l3 l4 l5 l6 : Int32) : Vv 200 0 70 [some (vR 3329 0), some (vI l1), some (vI l2), some (vI l3), some (vI l4), some (vI l5), some (vI l6)] [] σ = if l6 < l2 then if l6 < (Int32.ofNat 6) then ix l6 6 (fun k1 => cI (Cc 201 0 [vI l5, vI l1, vI (gI σ 3329 0 k1)] σ) (fun x3 σ2 => ix l6 6 (fun k4 => ix l6 6 (fun k5 => Vv 200 0 70 [some (vR 3329 0), some (vI l1), some (vI l2), some (vI l3), some (vI l4), some (vI (l5 ||| ((1 : Int32) <<< ((gI (sI σ2 3329 0 k4 x3) 3329 0 k5) &&& 31)))), some (vI (l6 + 1))] [] (sI σ2 3329 0 k4 x3))))) else some (none, σ) else some (none, σ) :=
  U_at (fun pc => Nat.beq pc 13 || Nat.beq pc 70) 400 rfl
/-! H.nthFree -/
set_option maxRecDepth 100000 in
theorem c_H_nthFree (σ : St) (a1 a2 a3 : Int32) : Cc 201 0 [vI a1, vI a2, vI a3] σ = Vv 201 0 5 [some (vI a1), some (vI a2), some (vI a3), some (vI 0), some (vI 0), none] [] σ :=
  (Cc_eq _ _ _ _).trans (U_at (fun pc => Nat.beq pc 5) 400 rfl)
set_option maxRecDepth 100000 in
theorem v_H_nthFree_5 (σ : St) (l0 l1 l2 l3 l4 : Int32) : Vv 201 0 5 [some (vI l0), some (vI l1), some (vI l2), some (vI l3), some (vI l4), none] [] σ = if l4 < l1 then if ((l0 >>> (l4 &&& 31)) &&& (1 : Int32)) = 0 then if (1 : Int32) = 0 then if (1 : Int32) = 0 then Vv 201 0 5 [some (vI l0), some (vI l1), some (vI l2), some (vI l3), some (vI (l4 + 1)), none] [] σ else Vv 201 0 5 [some (vI l0), some (vI l1), some (vI l2), some (vI (l3 + 1)), some (vI (l4 + 1)), none] [] σ else if l3 = l2 then some (some (vI l4), σ) else if (1 : Int32) = 0 then Vv 201 0 5 [some (vI l0), some (vI l1), some (vI l2), some (vI l3), some (vI (l4 + 1)), none] [] σ else Vv 201 0 5 [some (vI l0), some (vI l1), some (vI l2), some (vI (l3 + 1)), some (vI (l4 + 1)), none] [] σ else if (0 : Int32) = 0 then if (0 : Int32) = 0 then Vv 201 0 5 [some (vI l0), some (vI l1), some (vI l2), some (vI l3), some (vI (l4 + 1)), none] [] σ else Vv 201 0 5 [some (vI l0), some (vI l1), some (vI l2), some (vI (l3 + 1)), some (vI (l4 + 1)), none] [] σ else if l3 = l2 then some (some (vI l4), σ) else if (0 : Int32) = 0 then Vv 201 0 5 [some (vI l0), some (vI l1), some (vI l2), some (vI l3), some (vI (l4 + 1)), none] [] σ else Vv 201 0 5 [some (vI l0), some (vI l1), some (vI l2), some (vI (l3 + 1)), some (vI (l4 + 1)), none] [] σ else some (some (vI 0), σ) :=
  U_at (fun pc => Nat.beq pc 5) 400 rfl
/-! H.numberOfRow -/
set_option maxRecDepth 100000 in
theorem c_H_numberOfRow (σ : St) (a2 a3 : Int32) : Cc 202 0 [vR 3329 0, vI a2, vI a3] σ = Vv 202 0 8 [some (vR 3329 0), some (vI a2), some (vI a3), some (vI 0), some (vI 0), some (vI 0), none] [] σ :=
  (Cc_eq _ _ _ _).trans (U_at (fun pc => Nat.beq pc 8) 400 rfl)
set_option maxRecDepth 100000 in
theorem v_H_numberOfRow_8 (σ : St) (l1 l2 l3 l4 l5 : Int32) : Vv 202 0 8 [some (vR 3329 0), some (vI l1), some (vI l2), some (vI l3), some (vI l4), some (vI l5), none] [] σ = if l5 < l2 then if l5 < (Int32.ofNat 6) then ix l5 6 (fun k1 => cI (Cc 371 0 [vI ((((1 : Int32) <<< ((gI σ 3329 0 k1) &&& 31)) - (1 : Int32)) &&& (l4 ^^^ (-1 : Int32)))] σ) (fun x3 σ2 => ix l5 6 (fun k4 => Vv 202 0 8 [some (vR 3329 0), some (vI l1), some (vI l2), some (vI ((l3 * (l1 - l5)) + x3)), some (vI (l4 ||| ((1 : Int32) <<< ((gI σ2 3329 0 k4) &&& 31)))), some (vI (l5 + 1)), none] [] σ2))) else some (some (vI l3), σ) else some (some (vI l3), σ) :=
  U_at (fun pc => Nat.beq pc 8) 400 rfl
/-! H.inLowestTerms -/
set_option maxRecDepth 100000 in
theorem c_H_inLowestTerms (σ : St) (a3 : Int32) (a1 a2 : Int64) : Cc 203 0 [vL a1, vL a2, vI a3] σ = Vv 203 0 9 [some (vL a1), none, some (vL a2), none, some (vI a3), some (vL a1), none, some (vL a2), none, some (vI 0), none, none] [] σ :=
  (Cc_eq _ _ _ _).trans (U_at (fun pc => Nat.beq pc 9) 400 rfl)
set_option maxRecDepth 100000 in
theorem v_H_inLowestTerms_9 (σ : St) (l4 l9 : Int32) (l0 l2 l5 l7 : Int64) : Vv 203 0 9 [some (vL l0), none, some (vL l2), none, some (vI l4), some (vL l5), none, some (vL l7), none, some (vI l9), none, none] [] σ = if l9 < (200 : Int32) then if (lg_cmp l7 0) = 0 then if (lg_cmp l5 0) = 0 then if l4 = 0 then some (some (vL 0), σ) else some (some (vL 1), σ) else if l4 = 0 then if l5 = 0 then none else some (some (vL (l0 / l5)), σ) else if l5 = 0 then none else some (some (vL (l2 / l5)), σ) else if l7 = 0 then none else Vv 203 0 9 [some (vL l0), none, some (vL l2), none, some (vI l4), some (vL l7), none, some (vL (l5 - l5 / l7 * l7)), none, some (vI (l9 + 1)), none, none] [] σ else if (lg_cmp l5 0) = 0 then if l4 = 0 then some (some (vL 0), σ) else some (some (vL 1), σ) else if l4 = 0 then if l5 = 0 then none else some (some (vL (l0 / l5)), σ) else if l5 = 0 then none else some (some (vL (l2 / l5)), σ) :=
  U_at (fun pc => Nat.beq pc 9) 400 rfl
