/-! BLOCKS: by program (wip/whole/blocks.py, split.py) -/
/-! M.blind -/
set_option maxRecDepth 100000 in
theorem c_M_blind (σ : St) : Cc 289 0 [vR 96 0] σ = cI (Cc 239 0 [vR 96 0] (sI σ 96 0 0 0)) (fun x2 σ1 => if x2 = 0 then some (some (vI (-2)), σ1) else cV (Cc 262 0 [vR 96 0] σ1) (fun σ3 => Vv 289 0 23 [some (vR 96 0), some (vI 0), some (vI 0)] [] σ3)) :=
  (Cc_eq _ _ _ _).trans (U_at (fun pc => Nat.beq pc 23) 400 rfl)
set_option maxRecDepth 100000 in
theorem v_M_blind_23 (σ : St) (l1 l2 : Int32) : Vv 289 0 23 [some (vR 96 0), some (vI l1), some (vI l2)] [] σ = cI (Cc 240 0 [vR 96 0] σ) (fun x2 σ1 => if l2 < x2 then ix l2 6 (fun k3 => if (gI σ1 3489 0 k3) = 0 then Vv 289 0 23 [some (vR 96 0), some (vI (l1 ||| ((1 : Int32) <<< (l2 &&& 31)))), some (vI (l2 + 1))] [] σ1 else Vv 289 0 23 [some (vR 96 0), some (vI (l1 ||| (0 : Int32))), some (vI (l2 + 1))] [] σ1) else some (some (vI l1), σ1)) :=
  U_at (fun pc => Nat.beq pc 23) 400 rfl
/-! M.lost -/
set_option maxRecDepth 100000 in
theorem c_M_lost (σ : St) : Cc 290 0 [vR 96 0] σ = cI (Cc 239 0 [vR 96 0] (sI σ 96 0 0 0)) (fun x2 σ1 => if x2 = 0 then some (some (vI (-2)), σ1) else cV (Cc 262 0 [vR 96 0] σ1) (fun σ3 => Vv 290 0 23 [some (vR 96 0), some (vI 0), some (vI 0)] [] σ3)) :=
  (Cc_eq _ _ _ _).trans (U_at (fun pc => Nat.beq pc 23) 400 rfl)
set_option maxRecDepth 100000 in
theorem v_M_lost_23 (σ : St) (l1 l2 : Int32) : Vv 290 0 23 [some (vR 96 0), some (vI l1), some (vI l2)] [] σ = cI (Cc 241 0 [vR 96 0] σ) (fun x2 σ1 => if l2 < x2 then cI (Cc 285 0 [vR 96 0, vI l2] σ1) (fun x4 σ3 => if x4 = 0 then Vv 290 0 23 [some (vR 96 0), some (vI (l1 ||| ((1 : Int32) <<< (l2 &&& 31)))), some (vI (l2 + 1))] [] σ3 else Vv 290 0 23 [some (vR 96 0), some (vI (l1 ||| (0 : Int32))), some (vI (l2 + 1))] [] σ3) else some (some (vI l1), σ1)) :=
  U_at (fun pc => Nat.beq pc 23) 400 rfl
/-! M.best -/
set_option maxRecDepth 100000 in
theorem c_M_best (σ : St) : Cc 291 0 [vR 96 0] σ = cI (Cc 239 0 [vR 96 0] (sI σ 96 0 0 0)) (fun x2 σ1 => if x2 = 0 then some (some (vI (-2)), σ1) else cV (Cc 262 0 [vR 96 0] σ1) (fun σ3 => Vv 291 0 23 [some (vR 96 0), some (vI (-1)), some (vI 0)] [] σ3)) :=
  (Cc_eq _ _ _ _).trans (U_at (fun pc => Nat.beq pc 23) 400 rfl)
set_option maxRecDepth 100000 in
theorem v_M_best_23 (σ : St) (l1 l2 : Int32) : Vv 291 0 23 [some (vR 96 0), some (vI l1), some (vI l2)] [] σ = cI (Cc 240 0 [vR 96 0] σ) (fun x2 σ1 => if l2 < x2 then if l1 = (-1 : Int32) then Vv 291 0 23 [some (vR 96 0), some (vI l2), some (vI (l2 + 1))] [] σ1 else cI (Cc 261 0 [vR 96 0, vI l2] σ1) (fun x4 σ3 => cI (Cc 261 0 [vR 96 0, vI l1] σ3) (fun x6 σ5 => if x4 ≤ x6 then Vv 291 0 23 [some (vR 96 0), some (vI l1), some (vI (l2 + 1))] [] σ5 else Vv 291 0 23 [some (vR 96 0), some (vI l2), some (vI (l2 + 1))] [] σ5)) else some (some (vI l1), σ1)) :=
  U_at (fun pc => Nat.beq pc 23) 400 rfl
/-! M.at -/
set_option maxRecDepth 100000 in
theorem c_M_at (σ : St) (a1 a2 : Int32) : Cc 292 0 [vR 96 0, vI a1, vI a2] σ = cI (Cc 247 0 [vR 96 0, vI a1] (sI σ 96 0 0 0)) (fun x2 σ1 => if x2 = 0 then some (some (vI (-2)), σ1) else cI (Cc 248 0 [vR 96 0, vL (Int32.toInt64 a2)] σ1) (fun x4 σ3 => if x4 = 0 then some (some (vI (-2)), σ3) else cV (Cc 271 0 [vR 96 0] σ3) (fun σ5 => ix (((6 : Int32) * a2) + a1) 78 (fun k6 => some (some (vI (gI σ5 40377 0 k6)), σ5))))) :=
  (Cc_eq _ _ _ _).trans (U_at (fun pc => false) 400 rfl)
/-! M.who -/
set_option maxRecDepth 100000 in
theorem c_M_who (σ : St) (a1 a2 : Int32) : Cc 293 0 [vR 96 0, vI a1, vI a2] σ = cI (Cc 244 0 [vR 96 0, vL (Int32.toInt64 a1)] (sI σ 96 0 0 0)) (fun x2 σ1 => if x2 = 0 then some (some (vI (-2)), σ1) else cI (Cc 248 0 [vR 96 0, vL (Int32.toInt64 a2)] σ1) (fun x4 σ3 => if x4 = 0 then some (some (vI (-2)), σ3) else cV (Cc 271 0 [vR 96 0] σ3) (fun σ5 => Vv 293 0 32 [some (vR 96 0), some (vI a1), some (vI a2), some (vI 0)] [] σ5))) :=
  (Cc_eq _ _ _ _).trans (U_at (fun pc => Nat.beq pc 32) 400 rfl)
set_option maxRecDepth 100000 in
theorem v_M_who_32 (σ : St) (l1 l2 l3 : Int32) : Vv 293 0 32 [some (vR 96 0), some (vI l1), some (vI l2), some (vI l3)] [] σ = cI (Cc 242 0 [vR 96 0] σ) (fun x2 σ1 => if l3 < x2 then ix (((6 : Int32) * l2) + l3) 78 (fun k3 => if (gI σ1 40377 0 k3) = l1 then some (some (vI l3), σ1) else Vv 293 0 32 [some (vR 96 0), some (vI l1), some (vI l2), some (vI (l3 + 1))] [] σ1) else some (some (vI (-1)), σ1)) :=
  U_at (fun pc => Nat.beq pc 32) 400 rfl
/-! M.seen -/
set_option maxRecDepth 100000 in
theorem c_M_seen (σ : St) (a1 a2 : Int32) : Cc 294 0 [vR 96 0, vI a1, vI a2] σ = cI (Cc 247 0 [vR 96 0, vI a1] (sI σ 96 0 0 0)) (fun x2 σ1 => if x2 = 0 then some (some (vI (-2)), σ1) else cI (Cc 248 0 [vR 96 0, vL (Int32.toInt64 a2)] σ1) (fun x4 σ3 => if x4 = 0 then some (some (vI (-2)), σ3) else cV (Cc 271 0 [vR 96 0] σ3) (fun σ5 => Vv 294 0 34 [some (vR 96 0), some (vI a1), some (vI a2), some (vI 0), some (vI 0)] [] σ5))) :=
  (Cc_eq _ _ _ _).trans (U_at (fun pc => Nat.beq pc 34) 400 rfl)
set_option maxRecDepth 100000 in
theorem v_M_seen_34 (σ : St) (l1 l2 l3 l4 : Int32) : Vv 294 0 34 [some (vR 96 0), some (vI l1), some (vI l2), some (vI l3), some (vI l4)] [] σ = if l4 ≤ l2 then cI (Cc 272 0 [vR 96 0, vI l1, vI l4] σ) (fun x2 σ1 => Vv 294 0 34 [some (vR 96 0), some (vI l1), some (vI l2), some (vI (l3 ||| x2)), some (vI (l4 + 1))] [] σ1) else some (some (vI l3), σ) :=
  U_at (fun pc => Nat.beq pc 34) 400 rfl
/-! M.joy -/
set_option maxRecDepth 100000 in
theorem c_M_joy (σ : St) (a1 a2 : Int32) : Cc 295 0 [vR 96 0, vI a1, vI a2] σ = cI (Cc 247 0 [vR 96 0, vI a1] (sI σ 96 0 0 0)) (fun x2 σ1 => if x2 = 0 then some (some (vI (-2)), σ1) else cI (Cc 248 0 [vR 96 0, vL (Int32.toInt64 a2)] σ1) (fun x4 σ3 => if x4 = 0 then some (some (vI (-2)), σ3) else cV (Cc 271 0 [vR 96 0] σ3) (fun σ5 => cI (Cc 273 0 [vR 96 0, vI a1, vI a2] σ5) (fun x7 σ6 => some (some (vI x7), σ6))))) :=
  (Cc_eq _ _ _ _).trans (U_at (fun pc => false) 400 rfl)
/-! M.life -/
set_option maxRecDepth 100000 in
theorem c_M_life (σ : St) (a1 : Int32) : Cc 296 0 [vR 96 0, vI a1] σ = cI (Cc 247 0 [vR 96 0, vI a1] (sI σ 96 0 0 0)) (fun x2 σ1 => if x2 = 0 then some (some (vI (-2)), σ1) else cV (Cc 271 0 [vR 96 0] σ1) (fun σ3 => cI (Cc 274 0 [vR 96 0, vI a1] σ3) (fun x5 σ4 => some (some (vI x5), σ4)))) :=
  (Cc_eq _ _ _ _).trans (U_at (fun pc => false) 400 rfl)
/-! M.sad -/
set_option maxRecDepth 100000 in
theorem c_M_sad (σ : St) : Cc 297 0 [vR 96 0] σ = cI (Cc 239 0 [vR 96 0] (sI σ 96 0 0 0)) (fun x2 σ1 => if x2 = 0 then some (some (vI (-2)), σ1) else cV (Cc 271 0 [vR 96 0] σ1) (fun σ3 => Vv 297 0 23 [some (vR 96 0), some (vI (-1)), some (vI 0)] [] σ3)) :=
  (Cc_eq _ _ _ _).trans (U_at (fun pc => Nat.beq pc 23) 400 rfl)
set_option maxRecDepth 100000 in
theorem v_M_sad_23 (σ : St) (l1 l2 : Int32) : Vv 297 0 23 [some (vR 96 0), some (vI l1), some (vI l2)] [] σ = cI (Cc 242 0 [vR 96 0] σ) (fun x2 σ1 => if l2 < x2 then if l1 = (-1 : Int32) then Vv 297 0 23 [some (vR 96 0), some (vI l2), some (vI (l2 + 1))] [] σ1 else cI (Cc 274 0 [vR 96 0, vI l2] σ1) (fun x4 σ3 => cI (Cc 274 0 [vR 96 0, vI l1] σ3) (fun x6 σ5 => if x4 < x6 then Vv 297 0 23 [some (vR 96 0), some (vI l2), some (vI (l2 + 1))] [] σ5 else Vv 297 0 23 [some (vR 96 0), some (vI l1), some (vI (l2 + 1))] [] σ5)) else some (some (vI l1), σ1)) :=
  U_at (fun pc => Nat.beq pc 23) 400 rfl
/-! M.drill -/
set_option maxRecDepth 100000 in
theorem c_M_drill (σ : St) (a1 : Int32) : Cc 298 0 [vR 96 0, vI a1] σ = cI (Cc 247 0 [vR 96 0, vI a1] (sI σ 96 0 0 0)) (fun x2 σ1 => if x2 = 0 then some (some (vI (-2)), σ1) else cV (Cc 271 0 [vR 96 0] σ1) (fun σ3 => cI (Cc 277 0 [vR 96 0, vI a1] σ3) (fun x5 σ4 => some (some (vI x5), σ4)))) :=
  (Cc_eq _ _ _ _).trans (U_at (fun pc => false) 400 rfl)
/-! M.glad -/
set_option maxRecDepth 100000 in
theorem c_M_glad (σ : St) (a1 : Int32) : Cc 299 0 [vR 96 0, vI a1] σ = cI (Cc 248 0 [vR 96 0, vL (Int32.toInt64 a1)] (sI σ 96 0 0 0)) (fun x2 σ1 => if x2 = 0 then some (some (vI (-2)), σ1) else cV (Cc 271 0 [vR 96 0] σ1) (fun σ3 => cI (Cc 276 0 [vR 96 0, vI a1] σ3) (fun x5 σ4 => some (some (vI x5), σ4)))) :=
  (Cc_eq _ _ _ _).trans (U_at (fun pc => false) 400 rfl)
/-! M.often -/
set_option maxRecDepth 100000 in
theorem c_M_often (σ : St) (a1 : Int32) : Cc 300 0 [vR 96 0, vI a1] σ = cI (Cc 247 0 [vR 96 0, vI a1] (sI σ 96 0 0 0)) (fun x2 σ1 => if x2 = 0 then some (some (vI (-2)), σ1) else cV (Cc 271 0 [vR 96 0] σ1) (fun σ3 => Vv 300 0 24 [some (vR 96 0), some (vI a1), some (vI 0), some (vI 0)] [] σ3)) :=
  (Cc_eq _ _ _ _).trans (U_at (fun pc => Nat.beq pc 24) 400 rfl)
set_option maxRecDepth 100000 in
theorem v_M_often_24 (σ : St) (l1 l2 l3 : Int32) : Vv 300 0 24 [some (vR 96 0), some (vI l1), some (vI l2), some (vI l3)] [] σ = cI (Cc 243 0 [vR 96 0] σ) (fun x2 σ1 => if l3 ≤ x2 then cI (Cc 276 0 [vR 96 0, vI l3] σ1) (fun x4 σ3 => cI (Cc 252 0 [vI x4, vI l1] σ3) (fun x6 σ5 => if x6 = 0 then Vv 300 0 24 [some (vR 96 0), some (vI l1), some (vI (l2 + (0 : Int32))), some (vI (l3 + 1))] [] σ5 else Vv 300 0 24 [some (vR 96 0), some (vI l1), some (vI (l2 + (1 : Int32))), some (vI (l3 + 1))] [] σ5)) else some (some (vI l2), σ1)) :=
  U_at (fun pc => Nat.beq pc 24) 400 rfl
/-! M.isAsFirst -/
set_option maxRecDepth 100000 in
theorem c_M_isAsFirst (σ : St) (a1 : Int32) : Cc 301 0 [vR 96 0, vI a1] σ = Vv 301 0 2 [some (vR 96 0), some (vI a1), some (vI 0)] [] σ :=
  (Cc_eq _ _ _ _).trans (U_at (fun pc => Nat.beq pc 2) 400 rfl)
set_option maxRecDepth 100000 in
theorem v_M_isAsFirst_2 (σ : St) (l1 l2 : Int32) : Vv 301 0 2 [some (vR 96 0), some (vI l1), some (vI l2)] [] σ = cI (Cc 242 0 [vR 96 0] σ) (fun x2 σ1 => if l2 < x2 then ix (((6 : Int32) * l1) + l2) 78 (fun k3 => ix l2 78 (fun k4 => if (gI σ1 40377 0 k3) = (gI σ1 40377 0 k4) then Vv 301 0 2 [some (vR 96 0), some (vI l1), some (vI (l2 + 1))] [] σ1 else retZ 0 σ1)) else retZ 1 σ1) :=
  U_at (fun pc => Nat.beq pc 2) 400 rfl
/-! M.round -/
set_option maxRecDepth 100000 in
theorem c_M_round (σ : St) : Cc 302 0 [vR 96 0] σ = cI (Cc 239 0 [vR 96 0] (sI σ 96 0 0 0)) (fun x2 σ1 => if x2 = 0 then some (some (vI (-2)), σ1) else cV (Cc 271 0 [vR 96 0] σ1) (fun σ3 => Vv 302 0 21 [some (vR 96 0), some (vI 1)] [] σ3)) :=
  (Cc_eq _ _ _ _).trans (U_at (fun pc => Nat.beq pc 21) 400 rfl)
set_option maxRecDepth 100000 in
theorem v_M_round_21 (σ : St) (l1 : Int32) : Vv 302 0 21 [some (vR 96 0), some (vI l1)] [] σ = cI (Cc 243 0 [vR 96 0] σ) (fun x2 σ1 => if l1 ≤ x2 then cI (Cc 301 0 [vR 96 0, vI l1] σ1) (fun x4 σ3 => if x4 = 0 then Vv 302 0 21 [some (vR 96 0), some (vI (l1 + 1))] [] σ3 else some (some (vI l1), σ3)) else some (some (vI (-1)), σ1)) :=
  U_at (fun pc => Nat.beq pc 21) 400 rfl
/-! M.walks -/
set_option maxRecDepth 100000 in
theorem c_M_walks (σ : St) (a1 : Int32) : Cc 303 0 [vR 96 0, vI a1] σ = cI (Cc 247 0 [vR 96 0, vI a1] (sI σ 96 0 0 0)) (fun x2 σ1 => if x2 = 0 then some (some (vI (-2)), σ1) else cV (Cc 271 0 [vR 96 0] σ1) (fun σ3 => Vv 303 0 24 [some (vR 96 0), some (vI a1), some (vI 0), some (vI 0)] [] σ3)) :=
  (Cc_eq _ _ _ _).trans (U_at (fun pc => Nat.beq pc 24) 400 rfl)
set_option maxRecDepth 100000 in
theorem v_M_walks_24 (σ : St) (l1 l2 l3 : Int32) : Vv 303 0 24 [some (vR 96 0), some (vI l1), some (vI l2), some (vI l3)] [] σ = cI (Cc 243 0 [vR 96 0] σ) (fun x2 σ1 => if l3 ≤ x2 then ix (((6 : Int32) * l3) + l1) 78 (fun k3 => Vv 303 0 24 [some (vR 96 0), some (vI l1), some (vI (l2 ||| ((1 : Int32) <<< ((gI σ1 40377 0 k3) &&& 31)))), some (vI (l3 + 1))] [] σ1) else some (some (vI l2), σ1)) :=
  U_at (fun pc => Nat.beq pc 24) 400 rfl
/-! M.joyAt -/
set_option maxRecDepth 100000 in
theorem c_M_joyAt (σ : St) (a1 : Int32) : Cc 304 0 [vR 96 0, vI a1] σ = Vv 304 0 4 [some (vR 96 0), some (vI a1), some (vI 0), some (vI 0)] [] σ :=
  (Cc_eq _ _ _ _).trans (U_at (fun pc => Nat.beq pc 4) 400 rfl)
set_option maxRecDepth 100000 in
theorem v_M_joyAt_4 (σ : St) (l1 l2 l3 : Int32) : Vv 304 0 4 [some (vR 96 0), some (vI l1), some (vI l2), some (vI l3)] [] σ = cI (Cc 242 0 [vR 96 0] σ) (fun x2 σ1 => if l3 < x2 then cI (Cc 273 0 [vR 96 0, vI l3, vI l1] σ1) (fun x4 σ3 => Vv 304 0 4 [some (vR 96 0), some (vI l1), some (vI (l2 + x4)), some (vI (l3 + 1))] [] σ3) else some (some (vI l2), σ1)) :=
  U_at (fun pc => Nat.beq pc 4) 400 rfl
/-! M.feast -/
set_option maxRecDepth 100000 in
theorem c_M_feast (σ : St) : Cc 305 0 [vR 96 0] σ = cI (Cc 239 0 [vR 96 0] (sI σ 96 0 0 0)) (fun x2 σ1 => if x2 = 0 then some (some (vI (-2)), σ1) else cV (Cc 271 0 [vR 96 0] σ1) (fun σ3 => Vv 305 0 23 [some (vR 96 0), some (vI 0), some (vI 1)] [] σ3)) :=
  (Cc_eq _ _ _ _).trans (U_at (fun pc => Nat.beq pc 23) 400 rfl)
set_option maxRecDepth 100000 in
theorem v_M_feast_23 (σ : St) (l1 l2 : Int32) : Vv 305 0 23 [some (vR 96 0), some (vI l1), some (vI l2)] [] σ = cI (Cc 243 0 [vR 96 0] σ) (fun x2 σ1 => if l2 ≤ x2 then cI (Cc 304 0 [vR 96 0, vI l2] σ1) (fun x4 σ3 => cI (Cc 304 0 [vR 96 0, vI l1] σ3) (fun x6 σ5 => if x4 ≤ x6 then Vv 305 0 23 [some (vR 96 0), some (vI l1), some (vI (l2 + 1))] [] σ5 else Vv 305 0 23 [some (vR 96 0), some (vI l2), some (vI (l2 + 1))] [] σ5)) else some (some (vI l1), σ1)) :=
  U_at (fun pc => Nat.beq pc 23) 400 rfl
/-! M.envies -/
set_option maxRecDepth 100000 in
theorem c_M_envies (σ : St) (a1 a2 : Int32) : Cc 306 0 [vR 96 0, vI a1, vI a2] σ = cI (Cc 247 0 [vR 96 0, vI a1] (sI σ 96 0 0 0)) (fun x2 σ1 => if x2 = 0 then some (some (vI (-2)), σ1) else cI (Cc 248 0 [vR 96 0, vL (Int32.toInt64 a2)] σ1) (fun x4 σ3 => if x4 = 0 then some (some (vI (-2)), σ3) else cV (Cc 271 0 [vR 96 0] σ3) (fun σ5 => Vv 306 0 34 [some (vR 96 0), some (vI a1), some (vI a2), some (vI 0), some (vI 0)] [] σ5))) :=
  (Cc_eq _ _ _ _).trans (U_at (fun pc => Nat.beq pc 34) 400 rfl)
set_option maxRecDepth 100000 in
theorem v_M_envies_34 (σ : St) (l1 l2 l3 l4 : Int32) : Vv 306 0 34 [some (vR 96 0), some (vI l1), some (vI l2), some (vI l3), some (vI l4)] [] σ = cI (Cc 242 0 [vR 96 0] σ) (fun x2 σ1 => if l4 < x2 then ix (((6 : Int32) * l2) + l4) 78 (fun k3 => cI (Cc 261 0 [vR 96 0, vI (gI σ1 40377 0 k3)] σ1) (fun x5 σ4 => ix (((6 : Int32) * l2) + l1) 78 (fun k6 => cI (Cc 261 0 [vR 96 0, vI (gI σ4 40377 0 k6)] σ4) (fun x8 σ7 => if x5 ≤ x8 then Vv 306 0 34 [some (vR 96 0), some (vI l1), some (vI l2), some (vI (l3 ||| (0 : Int32))), some (vI (l4 + 1))] [] σ7 else Vv 306 0 34 [some (vR 96 0), some (vI l1), some (vI l2), some (vI (l3 ||| ((1 : Int32) <<< (l4 &&& 31)))), some (vI (l4 + 1))] [] σ7)))) else some (some (vI l3), σ1)) :=
  U_at (fun pc => Nat.beq pc 34) 400 rfl
/-! M.trade -/
set_option maxRecDepth 100000 in
theorem c_M_trade (σ : St) (a1 : Int32) : Cc 307 0 [vR 96 0, vI a1] σ = cI (Cc 248 0 [vR 96 0, vL (Int32.toInt64 a1)] (sI σ 96 0 0 0)) (fun x2 σ1 => if x2 = 0 then some (some (vI (-2)), σ1) else cV (Cc 271 0 [vR 96 0] σ1) (fun σ3 => Vv 307 0 23 [some (vR 96 0), some (vI a1), some (vI 0), none, none, none] [] σ3)) :=
  (Cc_eq _ _ _ _).trans (U_at (fun pc => Nat.beq pc 23 || Nat.beq pc 35) 400 rfl)
set_option maxRecDepth 100000 in
theorem v_M_trade_23 (σ : St) (l1 l2 : Int32) : Vv 307 0 23 [some (vR 96 0), some (vI l1), some (vI l2), none, none, none] [] σ = cI (Cc 242 0 [vR 96 0] σ) (fun x2 σ1 => if l2 < x2 then Vv 307 0 35 [some (vR 96 0), some (vI l1), some (vI l2), some (vI (l2 + (1 : Int32))), none, none] [] σ1 else some (some (vI (-1)), σ1)) :=
  U_at (fun pc => Nat.beq pc 23 || Nat.beq pc 35) 400 rfl
set_option maxRecDepth 100000 in
theorem v_M_trade_35 (σ : St) (l1 l2 l3 : Int32) : Vv 307 0 35 [some (vR 96 0), some (vI l1), some (vI l2), some (vI l3), none, none] [] σ = cI (Cc 242 0 [vR 96 0] σ) (fun x2 σ1 => if l3 < x2 then ix (((6 : Int32) * l1) + l2) 78 (fun k3 => ix (((6 : Int32) * l1) + l3) 78 (fun k4 => cI (Cc 264 0 [vR 96 0, vI l2, vI (gI σ1 40377 0 k3)] σ1) (fun x6 σ5 => if x6 = 0 then cI (Cc 264 0 [vR 96 0, vI l3, vI (gI σ1 40377 0 k4)] σ5) (fun x8 σ7 => if x8 = 0 then cI (Cc 264 0 [vR 96 0, vI l2, vI (gI σ1 40377 0 k4)] σ7) (fun x10 σ9 => if x10 = 0 then Vv 307 0 35 [some (vR 96 0), some (vI l1), some (vI l2), some (vI (l3 + 1)), none, none] [] σ9 else cI (Cc 264 0 [vR 96 0, vI l3, vI (gI σ1 40377 0 k3)] σ9) (fun x12 σ11 => if x12 = 0 then Vv 307 0 35 [some (vR 96 0), some (vI l1), some (vI l2), some (vI (l3 + 1)), none, none] [] σ11 else some (some (vI (((10 : Int32) * l2) + l3)), σ11))) else Vv 307 0 35 [some (vR 96 0), some (vI l1), some (vI l2), some (vI (l3 + 1)), none, none] [] σ7) else Vv 307 0 35 [some (vR 96 0), some (vI l1), some (vI l2), some (vI (l3 + 1)), none, none] [] σ5))) else Vv 307 0 23 [some (vR 96 0), some (vI l1), some (vI (l2 + 1)), none, none, none] [] σ1) :=
  U_at (fun pc => Nat.beq pc 23 || Nat.beq pc 35) 400 rfl
/-! M.rowsFrom -/
set_option maxRecDepth 100000 in
theorem c_M_rowsFrom (σ : St) (rq : Nat) (a1 a2 : Int32) : Cc 308 (rq + 1) [vR 96 0, vI a1, vI a2] σ = cI (Cc 242 0 [vR 96 0] σ) (fun x2 σ1 => if a1 = x2 then Vv 308 (rq + 1) 17 [some (vR 96 0), some (vI a1), some (vI a2), some (vI 0), some (vI 100000), some (vI 0)] [] σ1 else Vv 308 (rq + 1) 156 [some (vR 96 0), some (vI a1), some (vI a2), some (vI 0), none, none] [] σ1) :=
  (Cc_eq _ _ _ _).trans (U_at (fun pc => Nat.beq pc 17 || Nat.beq pc 92 || Nat.beq pc 156) 400 rfl)
set_option maxRecDepth 100000 in
theorem v_M_rowsFrom_17 (σ : St) (rq : Nat) (l1 l2 l3 l4 l5 : Int32) : Vv 308 (rq + 1) 17 [some (vR 96 0), some (vI l1), some (vI l2), some (vI l3), some (vI l4), some (vI l5)] [] σ = if l5 < l1 then ix l5 6 (fun k1 => cI (Cc 264 0 [vR 96 0, vI l5, vI (gI σ 3529 0 k1)] σ) (fun x3 σ2 => if x3 = 0 then ix l5 6 (fun k4 => cI (Cc 261 0 [vR 96 0, vI (gI σ2 3529 0 k4)] σ2) (fun x6 σ5 => cI (Cc 254 0 [vI l4, vI x6] σ5) (fun x8 σ7 => Vv 308 (rq + 1) 17 [some (vR 96 0), some (vI l1), some (vI l2), some (vI (l3 + (0 : Int32))), some (vI x8), some (vI (l5 + 1))] [] σ7))) else ix l5 6 (fun k9 => cI (Cc 261 0 [vR 96 0, vI (gI σ2 3529 0 k9)] σ2) (fun x11 σ10 => cI (Cc 254 0 [vI l4, vI x11] σ10) (fun x13 σ12 => Vv 308 (rq + 1) 17 [some (vR 96 0), some (vI l1), some (vI l2), some (vI (l3 + (1 : Int32))), some (vI x13), some (vI (l5 + 1))] [] σ12))))) else if l3 ≤ (gI σ 96 0 33) then if l3 = (gI σ 96 0 33) then cI (Cc 255 0 [vI (gI (sI σ 96 0 34 ((gI σ 96 0 34) + (1 : Int32))) 96 0 35), vI l4] (sI σ 96 0 34 ((gI σ 96 0 34) + (1 : Int32)))) (fun x15 σ14 => some (none, sI σ14 96 0 35 x15)) else cI (Cc 255 0 [vI (gI (sI σ 96 0 34 ((gI σ 96 0 34) + (0 : Int32))) 96 0 35), vI l4] (sI σ 96 0 34 ((gI σ 96 0 34) + (0 : Int32)))) (fun x17 σ16 => some (none, sI σ16 96 0 35 x17)) else Vv 308 (rq + 1) 92 [some (vR 96 0), some (vI l1), some (vI l2), some (vI l3), some (vI l4), some (vI 0)] [] (sI (sI σ 96 0 33 l3) 96 0 34 0) :=
  U_at (fun pc => Nat.beq pc 17 || Nat.beq pc 92 || Nat.beq pc 156) 400 rfl
set_option maxRecDepth 100000 in
theorem v_M_rowsFrom_92 (σ : St) (rq : Nat) (l1 l2 l3 l4 l5 : Int32) : Vv 308 (rq + 1) 92 [some (vR 96 0), some (vI l1), some (vI l2), some (vI l3), some (vI l4), some (vI l5)] [] σ = if l5 < l1 then ix l5 6 (fun k1 => ix l5 6 (fun k2 => Vv 308 (rq + 1) 92 [some (vR 96 0), some (vI l1), some (vI l2), some (vI l3), some (vI l4), some (vI (l5 + 1))] [] (sI σ 3521 0 k2 (gI σ 3529 0 k1)))) else if l3 = (gI σ 96 0 33) then cI (Cc 255 0 [vI (gI (sI σ 96 0 34 ((gI σ 96 0 34) + (1 : Int32))) 96 0 35), vI l4] (sI σ 96 0 34 ((gI σ 96 0 34) + (1 : Int32)))) (fun x4 σ3 => some (none, sI σ3 96 0 35 x4)) else cI (Cc 255 0 [vI (gI (sI σ 96 0 34 ((gI σ 96 0 34) + (0 : Int32))) 96 0 35), vI l4] (sI σ 96 0 34 ((gI σ 96 0 34) + (0 : Int32)))) (fun x6 σ5 => some (none, sI σ5 96 0 35 x6)) :=
  U_at (fun pc => Nat.beq pc 17 || Nat.beq pc 92 || Nat.beq pc 156) 400 rfl
set_option maxRecDepth 100000 in
theorem v_M_rowsFrom_156 (σ : St) (rq : Nat) (l1 l2 l3 : Int32) : Vv 308 (rq + 1) 156 [some (vR 96 0), some (vI l1), some (vI l2), some (vI l3), none, none] [] σ = cI (Cc 240 0 [vR 96 0] σ) (fun x2 σ1 => if l3 < x2 then cI (Cc 252 0 [vI l2, vI l3] σ1) (fun x4 σ3 => if x4 = 0 then ix l1 6 (fun k5 => cV (Cc 308 rq [vR 96 0, vI (l1 + (1 : Int32)), vI (l2 ||| ((1 : Int32) <<< (l3 &&& 31)))] (sI σ3 3529 0 k5 l3)) (fun σ6 => Vv 308 (rq + 1) 156 [some (vR 96 0), some (vI l1), some (vI l2), some (vI (l3 + 1)), none, none] [] σ6)) else Vv 308 (rq + 1) 156 [some (vR 96 0), some (vI l1), some (vI l2), some (vI (l3 + 1)), none, none] [] σ3) else some (none, σ1)) :=
  U_at (fun pc => Nat.beq pc 17 || Nat.beq pc 92 || Nat.beq pc 156) 400 rfl
/-! M.laysRows -/
set_option maxRecDepth 100000 in
theorem c_M_laysRows (σ : St) : Cc 309 0 [vR 96 0] σ = cV (Cc 262 0 [vR 96 0] σ) (fun σ1 => cV (Cc 308 12 [vR 96 0, vI 0, vI 0] (sI (sI (sI σ1 96 0 33 (-1)) 96 0 34 0) 96 0 35 (-1))) (fun σ2 => some (none, σ2))) :=
  (Cc_eq _ _ _ _).trans (U_at (fun pc => false) 400 rfl)
/-! M.roster -/
set_option maxRecDepth 100000 in
theorem c_M_roster (σ : St) : Cc 310 0 [vR 96 0] σ = cI (Cc 239 0 [vR 96 0] (sI σ 96 0 0 0)) (fun x2 σ1 => if x2 = 0 then some (some (vI (-2)), σ1) else cV (Cc 309 0 [vR 96 0] σ1) (fun σ3 => some (some (vI (gI σ3 96 0 33)), σ3))) :=
  (Cc_eq _ _ _ _).trans (U_at (fun pc => false) 400 rfl)
/-! M.put -/
set_option maxRecDepth 100000 in
theorem c_M_put (σ : St) (a1 : Int32) : Cc 311 0 [vR 96 0, vI a1] σ = cI (Cc 247 0 [vR 96 0, vI a1] (sI σ 96 0 0 0)) (fun x2 σ1 => if x2 = 0 then some (some (vI (-2)), σ1) else cV (Cc 309 0 [vR 96 0] σ1) (fun σ3 => ix a1 6 (fun k4 => some (some (vI (gI σ3 3521 0 k4)), σ3)))) :=
  (Cc_eq _ _ _ _).trans (U_at (fun pc => false) 400 rfl)
/-! M.rosters -/
set_option maxRecDepth 100000 in
theorem c_M_rosters (σ : St) : Cc 312 0 [vR 96 0] σ = cI (Cc 239 0 [vR 96 0] (sI σ 96 0 0 0)) (fun x2 σ1 => if x2 = 0 then some (some (vI (-2)), σ1) else cV (Cc 309 0 [vR 96 0] σ1) (fun σ3 => some (some (vI (gI σ3 96 0 34)), σ3))) :=
  (Cc_eq _ _ _ _).trans (U_at (fun pc => false) 400 rfl)
/-! M.fair -/
set_option maxRecDepth 100000 in
theorem c_M_fair (σ : St) : Cc 313 0 [vR 96 0] σ = cI (Cc 239 0 [vR 96 0] (sI σ 96 0 0 0)) (fun x2 σ1 => if x2 = 0 then some (some (vI (-2)), σ1) else cV (Cc 309 0 [vR 96 0] σ1) (fun σ3 => cI (Cc 242 0 [vR 96 0] σ3) (fun x5 σ4 => if x5 = 0 then some (some (vI (-1)), σ4) else some (some (vI (gI σ4 96 0 35)), σ4)))) :=
  (Cc_eq _ _ _ _).trans (U_at (fun pc => false) 400 rfl)
/-! M.codeOf -/
set_option maxRecDepth 100000 in
theorem c_M_codeOf (σ : St) : Cc 314 0 [vR 96 0, vR 3529 0] σ = Vv 314 0 4 [some (vR 96 0), some (vR 3529 0), some (vI 0), some (vI 0)] [] σ :=
  (Cc_eq _ _ _ _).trans (U_at (fun pc => Nat.beq pc 4) 400 rfl)
set_option maxRecDepth 100000 in
theorem v_M_codeOf_4 (σ : St) (l2 l3 : Int32) : Vv 314 0 4 [some (vR 96 0), some (vR 3529 0), some (vI l2), some (vI l3)] [] σ = cI (Cc 242 0 [vR 96 0] σ) (fun x2 σ1 => if l3 < x2 then ix l3 6 (fun k3 => Vv 314 0 4 [some (vR 96 0), some (vR 3529 0), some (vI (((6 : Int32) * l2) + (gI σ1 3529 0 k3))), some (vI (l3 + 1))] [] σ1) else some (some (vI l2), σ1)) :=
  U_at (fun pc => Nat.beq pc 4) 400 rfl
/-! M.decodes -/
set_option maxRecDepth 100000 in
theorem c_M_decodes (σ : St) (a1 : Int32) : Cc 315 0 [vR 96 0, vI a1] σ = cI (Cc 242 0 [vR 96 0] σ) (fun x2 σ1 => Vv 315 0 9 [some (vR 96 0), some (vI a1), some (vI a1), some (vI (x2 - (1 : Int32)))] [] σ1) :=
  (Cc_eq _ _ _ _).trans (U_at (fun pc => Nat.beq pc 9) 400 rfl)
set_option maxRecDepth 100000 in
theorem v_M_decodes_9 (σ : St) (l1 l2 l3 : Int32) : Vv 315 0 9 [some (vR 96 0), some (vI l1), some (vI l2), some (vI l3)] [] σ = if l3 < 0 then some (none, σ) else if (6 : Int32) = 0 then none else ix l3 6 (fun k1 => if (6 : Int32) = 0 then none else Vv 315 0 9 [some (vR 96 0), some (vI l1), some (vI (l2 / (6 : Int32))), some (vI (l3 + (-1)))] [] (sI σ 3529 0 k1 (l2 - l2 / (6 : Int32) * (6 : Int32)))) :=
  U_at (fun pc => Nat.beq pc 9) 400 rfl
/-! M.isEmpty -/
set_option maxRecDepth 100000 in
theorem c_M_isEmpty (σ : St) (a1 : Int32) : Cc 316 0 [vR 96 0, vI a1] σ = Vv 316 0 2 [some (vR 96 0), some (vI a1), some (vI 0)] [] σ :=
  (Cc_eq _ _ _ _).trans (U_at (fun pc => Nat.beq pc 2) 400 rfl)
set_option maxRecDepth 100000 in
theorem v_M_isEmpty_2 (σ : St) (l1 l2 : Int32) : Vv 316 0 2 [some (vR 96 0), some (vI l1), some (vI l2)] [] σ = cI (Cc 242 0 [vR 96 0] σ) (fun x2 σ1 => if l2 < x2 then ix l2 6 (fun k3 => if (gI σ1 3529 0 k3) = l1 then retZ 0 σ1 else Vv 316 0 2 [some (vR 96 0), some (vI l1), some (vI (l2 + 1))] [] σ1) else retZ 1 σ1) :=
  U_at (fun pc => Nat.beq pc 2) 400 rfl
/-! M.laysShifts -/
set_option maxRecDepth 100000 in
theorem c_M_laysShifts (σ : St) (a1 : Int32) : Cc 317 0 [vR 96 0, vI a1] σ = Vv 317 0 2 [some (vR 96 0), some (vI a1), some (vI 0), none, none] [] σ :=
  (Cc_eq _ _ _ _).trans (U_at (fun pc => Nat.beq pc 2 || Nat.beq pc 43 || Nat.beq pc 63 || Nat.beq pc 74) 400 rfl)
set_option maxRecDepth 100000 in
theorem v_M_laysShifts_2 (σ : St) (l1 l2 : Int32) : Vv 317 0 2 [some (vR 96 0), some (vI l1), some (vI l2), none, none] [] σ = if l2 < (46656 : Int32) then ix l2 46656 (fun k1 => Vv 317 0 2 [some (vR 96 0), some (vI l1), some (vI (l2 + 1)), none, none] [] (sI σ 23888337 0 k1 100000)) else ix l1 46656 (fun k2 => ix 0 720 (fun k3 => Vv 317 0 43 [some (vR 96 0), some (vI l1), some (vI 0), none, none] [] (sI (sI (sI σ 23888337 0 k2 0) 369113 0 k3 l1) 96 0 40 1))) :=
  U_at (fun pc => Nat.beq pc 2 || Nat.beq pc 43 || Nat.beq pc 63 || Nat.beq pc 74) 400 rfl
set_option maxRecDepth 100000 in
theorem v_M_laysShifts_43 (σ : St) (l1 l2 : Int32) : Vv 317 0 43 [some (vR 96 0), some (vI l1), some (vI l2), none, none] [] σ = if l2 < (gI σ 96 0 40) then ix l2 720 (fun k1 => cV (Cc 315 0 [vR 96 0, vI (gI σ 369113 0 k1)] σ) (fun σ2 => Vv 317 0 63 [some (vR 96 0), some (vI l1), some (vI l2), some (vI 0), none] [] σ2)) else some (none, σ) :=
  U_at (fun pc => Nat.beq pc 2 || Nat.beq pc 43 || Nat.beq pc 63 || Nat.beq pc 74) 400 rfl
set_option maxRecDepth 100000 in
theorem v_M_laysShifts_63 (σ : St) (l1 l2 l3 : Int32) : Vv 317 0 63 [some (vR 96 0), some (vI l1), some (vI l2), some (vI l3), none] [] σ = cI (Cc 242 0 [vR 96 0] σ) (fun x2 σ1 => if l3 < x2 then Vv 317 0 74 [some (vR 96 0), some (vI l1), some (vI l2), some (vI l3), some (vI 0)] [] σ1 else Vv 317 0 43 [some (vR 96 0), some (vI l1), some (vI (l2 + 1)), none, none] [] σ1) :=
  U_at (fun pc => Nat.beq pc 2 || Nat.beq pc 43 || Nat.beq pc 63 || Nat.beq pc 74) 400 rfl
set_option maxRecDepth 100000 in
theorem v_M_laysShifts_74 (σ : St) (l1 l2 l3 l4 : Int32) : Vv 317 0 74 [some (vR 96 0), some (vI l1), some (vI l2), some (vI l3), some (vI l4)] [] σ = cI (Cc 240 0 [vR 96 0] σ) (fun x2 σ1 => if l4 < x2 then ix l3 6 (fun k3 => cI (Cc 282 0 [vR 96 0, vI (gI σ1 3529 0 k3), vI l4] σ1) (fun x5 σ4 => if x5 = 0 then Vv 317 0 74 [some (vR 96 0), some (vI l1), some (vI l2), some (vI l3), some (vI (l4 + 1))] [] σ4 else cI (Cc 316 0 [vR 96 0, vI l4] σ4) (fun x7 σ6 => if x7 = 0 then Vv 317 0 74 [some (vR 96 0), some (vI l1), some (vI l2), some (vI l3), some (vI (l4 + 1))] [] σ6 else ix l2 720 (fun k8 => ix (gI σ6 369113 0 k8) 46656 (fun k9 => cV (Cc 318 0 [vR 96 0, vI l3, vI l4, vI ((gI σ6 23888337 0 k9) + (1 : Int32))] σ6) (fun σ10 => Vv 317 0 74 [some (vR 96 0), some (vI l1), some (vI l2), some (vI l3), some (vI (l4 + 1))] [] σ10)))))) else Vv 317 0 63 [some (vR 96 0), some (vI l1), some (vI l2), some (vI (l3 + 1)), none] [] σ1) :=
  U_at (fun pc => Nat.beq pc 2 || Nat.beq pc 43 || Nat.beq pc 63 || Nat.beq pc 74) 400 rfl
/-! M.shiftsTo -/
set_option maxRecDepth 100000 in
theorem c_M_shiftsTo (σ : St) (a1 a2 a3 : Int32) : Cc 318 0 [vR 96 0, vI a1, vI a2, vI a3] σ = ix a1 6 (fun k1 => ix a1 6 (fun k2 => cI (Cc 314 0 [vR 96 0, vR 3529 0] (sI σ 3529 0 k2 a2)) (fun x4 σ3 => ix a1 6 (fun k5 => ix x4 46656 (fun k6 => if (gI (sI σ3 3529 0 k5 (gI σ 3529 0 k1)) 23888337 0 k6) < (100000 : Int32) then some (none, sI σ3 3529 0 k5 (gI σ 3529 0 k1)) else ix x4 46656 (fun k7 => ix (gI (sI (sI σ3 3529 0 k5 (gI σ 3529 0 k1)) 23888337 0 k7 a3) 96 0 40) 720 (fun k8 => some (none, sI (sI (sI (sI σ3 3529 0 k5 (gI σ 3529 0 k1)) 23888337 0 k7 a3) 369113 0 k8 x4) 96 0 40 ((gI (sI (sI (sI σ3 3529 0 k5 (gI σ 3529 0 k1)) 23888337 0 k7 a3) 369113 0 k8 x4) 96 0 40) + (1 : Int32)))))))))) :=
  (Cc_eq _ _ _ _).trans (U_at (fun pc => false) 400 rfl)
/-! M.whyNotRow -/
set_option maxRecDepth 100000 in
theorem c_M_whyNotRow (σ : St) (a1 : Int32) : Cc 319 0 [vR 96 0, vI a1] σ = cI (Cc 205 0 [vI a1] σ) (fun x2 σ1 => if x2 = 0 then some (some (vI (-2)), σ1) else cI (Cc 239 0 [vR 96 0] σ1) (fun x4 σ3 => if x4 = 0 then some (some (vI (-2)), σ3) else ix a1 4 (fun k5 => if (gI σ3 2345 0 k5) = (-1 : Int32) then some (some (vI (-6)), σ3) else ix a1 4 (fun k6 => cI (Cc 242 0 [vR 96 0] σ3) (fun x8 σ7 => if (gI σ3 2353 0 k6) = x8 then Vv 319 0 50 [some (vR 96 0), some (vI a1), some (vI 0), some (vI 0), none, none] [] σ7 else some (some (vI (-2)), σ7)))))) :=
  (Cc_eq _ _ _ _).trans (U_at (fun pc => Nat.beq pc 50) 400 rfl)
set_option maxRecDepth 100000 in
theorem v_M_whyNotRow_50 (σ : St) (l1 l2 l3 : Int32) : Vv 319 0 50 [some (vR 96 0), some (vI l1), some (vI l2), some (vI l3), none, none] [] σ = cI (Cc 242 0 [vR 96 0] σ) (fun x2 σ1 => if l3 < x2 then ix (((60 : Int32) * l1) + l3) 240 (fun k3 => cI (Cc 244 0 [vR 96 0, vL (gL σ1 123194 0 k3)] σ1) (fun x5 σ4 => if x5 = 0 then some (some (vI (-2)), σ4) else cI (Cc 252 0 [vI l2, vI (Int64.toInt32 (gL σ1 123194 0 k3))] σ4) (fun x7 σ6 => if x7 = 0 then Vv 319 0 50 [some (vR 96 0), some (vI l1), some (vI (l2 ||| ((1 : Int32) <<< ((Int64.toInt32 (gL σ1 123194 0 k3)) &&& 31)))), some (vI (l3 + 1)), none, none] [] σ6 else some (some (vI (-2)), σ6)))) else some (some (vI 0), σ1)) :=
  U_at (fun pc => Nat.beq pc 50) 400 rfl
/-! M.startCode -/
set_option maxRecDepth 100000 in
theorem c_M_startCode (σ : St) : Cc 320 0 [vR 96 0] σ = Vv 320 0 2 [some (vR 96 0), some (vI 0)] [] σ :=
  (Cc_eq _ _ _ _).trans (U_at (fun pc => Nat.beq pc 2) 400 rfl)
set_option maxRecDepth 100000 in
theorem v_M_startCode_2 (σ : St) (l1 : Int32) : Vv 320 0 2 [some (vR 96 0), some (vI l1)] [] σ = cI (Cc 242 0 [vR 96 0] σ) (fun x2 σ1 => if l1 < x2 then ix ((2 : Int32) * l1) 60 (fun k3 => ix l1 6 (fun k4 => Vv 320 0 2 [some (vR 96 0), some (vI (l1 + 1))] [] (sI σ1 3529 0 k4 (gI σ1 31113 0 k3)))) else cI (Cc 314 0 [vR 96 0, vR 3529 0] σ1) (fun x6 σ5 => some (some (vI x6), σ5))) :=
  U_at (fun pc => Nat.beq pc 2) 400 rfl
/-! M.laysTo -/
set_option maxRecDepth 100000 in
theorem c_M_laysTo (σ : St) (a1 : Int32) : Cc 321 0 [vR 96 0, vI a1] σ = Vv 321 0 2 [some (vR 96 0), some (vI a1), some (vI 0)] [] σ :=
  (Cc_eq _ _ _ _).trans (U_at (fun pc => Nat.beq pc 2) 400 rfl)
set_option maxRecDepth 100000 in
theorem v_M_laysTo_2 (σ : St) (l1 l2 : Int32) : Vv 321 0 2 [some (vR 96 0), some (vI l1), some (vI l2)] [] σ = cI (Cc 242 0 [vR 96 0] σ) (fun x2 σ1 => if l2 < x2 then ix (((60 : Int32) * l1) + l2) 240 (fun k3 => ix l2 6 (fun k4 => Vv 321 0 2 [some (vR 96 0), some (vI l1), some (vI (l2 + 1))] [] (sI σ1 3529 0 k4 (Int64.toInt32 (gL σ1 123194 0 k3))))) else cI (Cc 314 0 [vR 96 0, vR 3529 0] σ1) (fun x6 σ5 => cV (Cc 317 0 [vR 96 0, vI x6] σ5) (fun σ7 => cI (Cc 320 0 [vR 96 0] σ7) (fun x9 σ8 => ix x9 46656 (fun k10 => some (some (vI (gI σ8 23888337 0 k10)), σ8)))))) :=
  U_at (fun pc => Nat.beq pc 2) 400 rfl
/-! M.shifts -/
set_option maxRecDepth 100000 in
theorem c_M_shifts (σ : St) (a1 : Int32) : Cc 322 0 [vR 96 0, vI a1] σ = cI (Cc 319 0 [vR 96 0, vI a1] (sI σ 96 0 0 0)) (fun x2 σ1 => if x2 = 0 then cI (Cc 321 0 [vR 96 0, vI a1] σ1) (fun x4 σ3 => if x4 < (100000 : Int32) then some (some (vI x4), σ3) else some (some (vI (-1)), σ3)) else some (some (vI x2), σ1)) :=
  (Cc_eq _ _ _ _).trans (U_at (fun pc => false) 400 rfl)
/-! M.first -/
set_option maxRecDepth 100000 in
theorem c_M_first (σ : St) (a1 : Int32) : Cc 323 0 [vR 96 0, vI a1] σ = cI (Cc 319 0 [vR 96 0, vI a1] (sI σ 96 0 0 0)) (fun x2 σ1 => if x2 = 0 then cI (Cc 321 0 [vR 96 0, vI a1] σ1) (fun x4 σ3 => if x4 < (100000 : Int32) then if x4 = 0 then some (some (vI (-1)), σ3) else Vv 323 0 38 [some (vR 96 0), some (vI a1), some (vI x2), some (vI x4), some (vI 0), none] [] σ3 else some (some (vI (-1)), σ3)) else some (some (vI x2), σ1)) :=
  (Cc_eq _ _ _ _).trans (U_at (fun pc => Nat.beq pc 38 || Nat.beq pc 50) 400 rfl)
set_option maxRecDepth 100000 in
theorem v_M_first_38 (σ : St) (l1 l2 l3 l4 : Int32) : Vv 323 0 38 [some (vR 96 0), some (vI l1), some (vI l2), some (vI l3), some (vI l4), none] [] σ = cI (Cc 242 0 [vR 96 0] σ) (fun x2 σ1 => if l4 < x2 then Vv 323 0 50 [some (vR 96 0), some (vI l1), some (vI l2), some (vI l3), some (vI l4), some (vI 0)] [] σ1 else some (some (vI (-1)), σ1)) :=
  U_at (fun pc => Nat.beq pc 38 || Nat.beq pc 50) 400 rfl
set_option maxRecDepth 100000 in
theorem v_M_first_50 (σ : St) (l1 l2 l3 l4 l5 : Int32) : Vv 323 0 50 [some (vR 96 0), some (vI l1), some (vI l2), some (vI l3), some (vI l4), some (vI l5)] [] σ = cI (Cc 240 0 [vR 96 0] σ) (fun x2 σ1 => if l5 < x2 then cI (Cc 320 0 [vR 96 0] σ1) (fun x4 σ3 => ix l4 6 (fun k5 => cI (Cc 282 0 [vR 96 0, vI (gI σ3 3529 0 k5), vI l5] σ3) (fun x7 σ6 => if x7 = 0 then Vv 323 0 50 [some (vR 96 0), some (vI l1), some (vI l2), some (vI l3), some (vI l4), some (vI (l5 + 1))] [] σ6 else cI (Cc 316 0 [vR 96 0, vI l5] σ6) (fun x9 σ8 => if x9 = 0 then Vv 323 0 50 [some (vR 96 0), some (vI l1), some (vI l2), some (vI l3), some (vI l4), some (vI (l5 + 1))] [] σ8 else ix l4 6 (fun k10 => cI (Cc 314 0 [vR 96 0, vR 3529 0] (sI σ8 3529 0 k10 l5)) (fun x12 σ11 => ix x12 46656 (fun k13 => if (gI σ11 23888337 0 k13) = (l3 - (1 : Int32)) then some (some (vI l4), σ11) else Vv 323 0 50 [some (vR 96 0), some (vI l1), some (vI l2), some (vI l3), some (vI l4), some (vI (l5 + 1))] [] σ11))))))) else Vv 323 0 38 [some (vR 96 0), some (vI l1), some (vI l2), some (vI l3), some (vI (l4 + 1)), none] [] σ1) :=
  U_at (fun pc => Nat.beq pc 38 || Nat.beq pc 50) 400 rfl
/-! M.reach -/
set_option maxRecDepth 100000 in
theorem c_M_reach (σ : St) : Cc 324 0 [vR 96 0] σ = cI (Cc 239 0 [vR 96 0] (sI σ 96 0 0 0)) (fun x2 σ1 => if x2 = 0 then some (some (vI (-2)), σ1) else cI (Cc 320 0 [vR 96 0] σ1) (fun x4 σ3 => cV (Cc 317 0 [vR 96 0, vI x4] σ3) (fun σ5 => some (some (vI (gI σ5 96 0 40)), σ5)))) :=
  (Cc_eq _ _ _ _).trans (U_at (fun pc => false) 400 rfl)
/-! M.far -/
set_option maxRecDepth 100000 in
theorem c_M_far (σ : St) : Cc 325 0 [vR 96 0] σ = cI (Cc 239 0 [vR 96 0] (sI σ 96 0 0 0)) (fun x2 σ1 => if x2 = 0 then some (some (vI (-2)), σ1) else cI (Cc 320 0 [vR 96 0] σ1) (fun x4 σ3 => cV (Cc 317 0 [vR 96 0, vI x4] σ3) (fun σ5 => ix ((gI σ5 96 0 40) - (1 : Int32)) 720 (fun k6 => ix (gI σ5 369113 0 k6) 46656 (fun k7 => some (some (vI (gI σ5 23888337 0 k7)), σ5)))))) :=
  (Cc_eq _ _ _ _).trans (U_at (fun pc => false) 400 rfl)
/-! M.times -/
set_option maxRecDepth 100000 in
theorem c_M_times (σ : St) (rq : Nat) (a1 : Int32) : Cc 326 (rq + 1) [vI a1] σ = if a1 < (2 : Int32) then some (some (vI 1), σ) else cI (Cc 326 rq [vI (a1 - (1 : Int32))] σ) (fun x2 σ1 => some (some (vI (a1 * x2)), σ1)) :=
  (Cc_eq _ _ _ _).trans (U_at (fun pc => false) 400 rfl)
/-! M.common -/
set_option maxRecDepth 100000 in
theorem c_M_common (σ : St) (rq : Nat) (a1 a2 : Int64) : Cc 327 (rq + 1) [vL a1, vL a2] σ = if (lg_cmp a2 0) = 0 then some (some (vL a1), σ) else if a2 = 0 then none else cL (Cc 327 rq [vL a2, vL (a1 - a1 / a2 * a2)] σ) (fun x2 σ1 => some (some (vL x2), σ1)) :=
  (Cc_eq _ _ _ _).trans (U_at (fun pc => false) 400 rfl)
/-! M.part -/
set_option maxRecDepth 100000 in
theorem c_M_part (σ : St) (a3 : Int32) (a1 a2 : Int64) : Cc 328 0 [vL a1, vL a2, vI a3] σ = if a3 = 0 then cL (Cc 327 100 [vL a1, vL a2] σ) (fun x2 σ1 => if x2 = 0 then none else some (some (vL (a1 / x2)), σ1)) else cL (Cc 327 100 [vL a1, vL a2] σ) (fun x4 σ3 => if x4 = 0 then none else some (some (vL (a2 / x4)), σ3)) :=
  (Cc_eq _ _ _ _).trans (U_at (fun pc => false) 400 rfl)
/-! M.takesOf -/
set_option maxRecDepth 100000 in
theorem c_M_takesOf (σ : St) (a1 a2 : Int32) : Cc 329 0 [vR 96 0, vI a1, vI a2] σ = Vv 329 0 5 [some (vR 96 0), some (vI a1), some (vI a2), some (vI (-1)), some (vI 0)] [] σ :=
  (Cc_eq _ _ _ _).trans (U_at (fun pc => Nat.beq pc 5) 400 rfl)
set_option maxRecDepth 100000 in
theorem v_M_takesOf_5 (σ : St) (l1 l2 l3 l4 : Int32) : Vv 329 0 5 [some (vR 96 0), some (vI l1), some (vI l2), some (vI l3), some (vI l4)] [] σ = cI (Cc 240 0 [vR 96 0] σ) (fun x2 σ1 => if l4 < x2 then cI (Cc 252 0 [vI l2, vI l4] σ1) (fun x4 σ3 => if x4 = 0 then cI (Cc 264 0 [vR 96 0, vI l1, vI l4] σ3) (fun x6 σ5 => if x6 = 0 then if l3 = (-1 : Int32) then Vv 329 0 5 [some (vR 96 0), some (vI l1), some (vI l2), some (vI l4), some (vI (l4 + 1))] [] σ5 else cI (Cc 261 0 [vR 96 0, vI l4] σ5) (fun x8 σ7 => cI (Cc 261 0 [vR 96 0, vI l3] σ7) (fun x10 σ9 => if x8 ≤ x10 then Vv 329 0 5 [some (vR 96 0), some (vI l1), some (vI l2), some (vI l3), some (vI (l4 + 1))] [] σ9 else Vv 329 0 5 [some (vR 96 0), some (vI l1), some (vI l2), some (vI l4), some (vI (l4 + 1))] [] σ9)) else some (some (vI l4), σ5)) else Vv 329 0 5 [some (vR 96 0), some (vI l1), some (vI l2), some (vI l3), some (vI (l4 + 1))] [] σ3) else some (some (vI l3), σ1)) :=
  U_at (fun pc => Nat.beq pc 5) 400 rfl
/-! M.lotsFrom -/
set_option maxRecDepth 100000 in
theorem c_M_lotsFrom (σ : St) (rq : Nat) (a1 a2 a3 a4 : Int32) : Cc 330 (rq + 1) [vR 96 0, vI a1, vI a2, vI a3, vI a4] σ = Vv 330 (rq + 1) 6 [some (vR 96 0), some (vI a1), some (vI a2), some (vI a3), some (vI a4), some (vI 0), some (vI 0), none] [] σ :=
  (Cc_eq _ _ _ _).trans (U_at (fun pc => Nat.beq pc 6) 400 rfl)
set_option maxRecDepth 100000 in
theorem v_M_lotsFrom_6 (σ : St) (rq : Nat) (l1 l2 l3 l4 l5 l6 : Int32) : Vv 330 (rq + 1) 6 [some (vR 96 0), some (vI l1), some (vI l2), some (vI l3), some (vI l4), some (vI l5), some (vI l6), none] [] σ = cI (Cc 242 0 [vR 96 0] σ) (fun x2 σ1 => if l6 < x2 then cI (Cc 252 0 [vI l3, vI l6] σ1) (fun x4 σ3 => if x4 = 0 then cI (Cc 329 0 [vR 96 0, vI l6, vI l4] σ3) (fun x6 σ5 => if l6 = l1 then if x6 = l2 then cI (Cc 242 0 [vR 96 0] σ5) (fun x8 σ7 => cI (Cc 253 0 [vI l3] σ7) (fun x10 σ9 => cI (Cc 326 12 [vI ((x8 - x10) - (1 : Int32))] σ9) (fun x12 σ11 => Vv 330 (rq + 1) 6 [some (vR 96 0), some (vI l1), some (vI l2), some (vI l3), some (vI l4), some (vI (l5 + x12)), some (vI (l6 + 1)), some (vI x6)] [] σ11))) else Vv 330 (rq + 1) 6 [some (vR 96 0), some (vI l1), some (vI l2), some (vI l3), some (vI l4), some (vI (l5 + (0 : Int32))), some (vI (l6 + 1)), some (vI x6)] [] σ5 else cI (Cc 330 rq [vR 96 0, vI l1, vI l2, vI (l3 ||| ((1 : Int32) <<< (l6 &&& 31))), vI (l4 ||| ((1 : Int32) <<< (x6 &&& 31)))] σ5) (fun x14 σ13 => Vv 330 (rq + 1) 6 [some (vR 96 0), some (vI l1), some (vI l2), some (vI l3), some (vI l4), some (vI (l5 + x14)), some (vI (l6 + 1)), some (vI x6)] [] σ13)) else Vv 330 (rq + 1) 6 [some (vR 96 0), some (vI l1), some (vI l2), some (vI l3), some (vI l4), some (vI l5), some (vI (l6 + 1)), none] [] σ3) else some (some (vI l5), σ1)) :=
  U_at (fun pc => Nat.beq pc 6) 400 rfl
/-! M.lot -/
set_option maxRecDepth 100000 in
theorem c_M_lot (σ : St) (a1 a2 a3 : Int32) : Cc 331 0 [vR 96 0, vI a1, vI a2, vI a3] σ = cI (Cc 247 0 [vR 96 0, vI a1] (sI σ 96 0 0 0)) (fun x2 σ1 => if x2 = 0 then some (some (vI (-2)), σ1) else cI (Cc 244 0 [vR 96 0, vL (Int32.toInt64 a2)] σ1) (fun x4 σ3 => if x4 = 0 then some (some (vI (-2)), σ3) else cI (Cc 251 0 [vI a3] σ3) (fun x6 σ5 => if x6 = 0 then some (some (vI (-2)), σ5) else cV (Cc 262 0 [vR 96 0] σ5) (fun σ7 => cI (Cc 330 12 [vR 96 0, vI a1, vI a2, vI 0, vI 0] σ7) (fun x9 σ8 => cI (Cc 242 0 [vR 96 0] σ8) (fun x11 σ10 => cI (Cc 326 12 [vI x11] σ10) (fun x13 σ12 => cL (Cc 328 0 [vL (Int32.toInt64 x9), vL (Int32.toInt64 x13), vI a3] σ12) (fun x15 σ14 => some (some (vI (Int64.toInt32 x15)), σ14))))))))) :=
  (Cc_eq _ _ _ _).trans (U_at (fun pc => false) 400 rfl)
/-! M.allOf -/
set_option maxRecDepth 100000 in
theorem c_M_allOf (σ : St) (a1 : Int32) : Cc 332 0 [vR 96 0, vI a1] σ = Vv 332 0 4 [some (vR 96 0), some (vI a1), some (vI 0), some (vI 0)] [] σ :=
  (Cc_eq _ _ _ _).trans (U_at (fun pc => Nat.beq pc 4) 400 rfl)
set_option maxRecDepth 100000 in
theorem v_M_allOf_4 (σ : St) (l1 l2 l3 : Int32) : Vv 332 0 4 [some (vR 96 0), some (vI l1), some (vI l2), some (vI l3)] [] σ = cI (Cc 240 0 [vR 96 0] σ) (fun x2 σ1 => if l3 < x2 then cI (Cc 252 0 [vI l1, vI l3] σ1) (fun x4 σ3 => if x4 = 0 then Vv 332 0 4 [some (vR 96 0), some (vI l1), some (vI (l2 ||| (0 : Int32))), some (vI (l3 + 1))] [] σ3 else ix l3 6 (fun k5 => Vv 332 0 4 [some (vR 96 0), some (vI l1), some (vI (l2 ||| (gI σ3 3489 0 k5))), some (vI (l3 + 1))] [] σ3)) else some (some (vI l2), σ1)) :=
  U_at (fun pc => Nat.beq pc 4) 400 rfl
/-! M.all -/
set_option maxRecDepth 100000 in
theorem c_M_all (σ : St) (a1 : Int32) : Cc 333 0 [vR 96 0, vI a1] σ = cI (Cc 239 0 [vR 96 0] (sI σ 96 0 0 0)) (fun x2 σ1 => if x2 = 0 then some (some (vI (-2)), σ1) else cI (Cc 240 0 [vR 96 0] σ1) (fun x4 σ3 => cI (Cc 204 0 [vL (Int32.toInt64 a1), vL 0, vL ((Int32.toInt64 ((1 : Int32) <<< (x4 &&& 31))) - (1 : Int64))] σ3) (fun x6 σ5 => if x6 = 0 then some (some (vI (-2)), σ5) else cV (Cc 262 0 [vR 96 0] σ5) (fun σ7 => cI (Cc 332 0 [vR 96 0, vI a1] σ7) (fun x9 σ8 => cI (Cc 260 0 [vR 96 0, vI x9] σ8) (fun x11 σ10 => some (some (vI x11), σ10))))))) :=
  (Cc_eq _ _ _ _).trans (U_at (fun pc => false) 400 rfl)
/-! M.share -/
set_option maxRecDepth 100000 in
theorem c_M_share (σ : St) (a1 a2 : Int32) : Cc 334 0 [vR 96 0, vI a1, vI a2] σ = cI (Cc 244 0 [vR 96 0, vL (Int32.toInt64 a1)] (sI σ 96 0 0 0)) (fun x2 σ1 => if x2 = 0 then some (some (vI (-2)), σ1) else cI (Cc 251 0 [vI a2] σ1) (fun x4 σ3 => if x4 = 0 then some (some (vI (-2)), σ3) else cV (Cc 262 0 [vR 96 0] σ3) (fun σ5 => Vv 334 0 33 [some (vR 96 0), some (vI a1), some (vI a2), some (vI 0), some (vI 0), none] [] σ5))) :=
  (Cc_eq _ _ _ _).trans (U_at (fun pc => Nat.beq pc 33 || Nat.beq pc 63) 400 rfl)
set_option maxRecDepth 100000 in
theorem v_M_share_33 (σ : St) (l1 l2 l3 l4 : Int32) : Vv 334 0 33 [some (vR 96 0), some (vI l1), some (vI l2), some (vI l3), some (vI l4), none] [] σ = cI (Cc 240 0 [vR 96 0] σ) (fun x2 σ1 => if l4 < ((1 : Int32) <<< (x2 &&& 31)) then cI (Cc 252 0 [vI l4, vI l1] σ1) (fun x4 σ3 => if x4 = 0 then cI (Cc 253 0 [vI l4] σ3) (fun x6 σ5 => Vv 334 0 63 [some (vR 96 0), some (vI l1), some (vI l2), some (vI l3), some (vI l4), some (vI x6)] [] σ5) else Vv 334 0 33 [some (vR 96 0), some (vI l1), some (vI l2), some (vI l3), some (vI (l4 + 1)), none] [] σ3) else cI (Cc 240 0 [vR 96 0] σ1) (fun x8 σ7 => cI (Cc 326 12 [vI x8] σ7) (fun x10 σ9 => cL (Cc 328 0 [vL (Int32.toInt64 l3), vL (Int32.toInt64 x10), vI l2] σ9) (fun x12 σ11 => some (some (vI (Int64.toInt32 x12)), σ11))))) :=
  U_at (fun pc => Nat.beq pc 33 || Nat.beq pc 63) 400 rfl
set_option maxRecDepth 100000 in
theorem v_M_share_63 (σ : St) (l1 l2 l3 l4 l5 : Int32) : Vv 334 0 63 [some (vR 96 0), some (vI l1), some (vI l2), some (vI l3), some (vI l4), some (vI l5)] [] σ = cI (Cc 326 12 [vI l5] σ) (fun x2 σ1 => cI (Cc 240 0 [vR 96 0] σ1) (fun x4 σ3 => cI (Cc 326 12 [vI ((x4 - l5) - (1 : Int32))] σ3) (fun x6 σ5 => cI (Cc 332 0 [vR 96 0, vI (l4 ||| ((1 : Int32) <<< (l1 &&& 31)))] σ5) (fun x8 σ7 => cI (Cc 260 0 [vR 96 0, vI x8] σ7) (fun x10 σ9 => cI (Cc 332 0 [vR 96 0, vI l4] σ9) (fun x12 σ11 => cI (Cc 260 0 [vR 96 0, vI x12] σ11) (fun x14 σ13 => Vv 334 0 33 [some (vR 96 0), some (vI l1), some (vI l2), some (vI (l3 + ((x2 * x6) * (x10 - x14)))), some (vI (l4 + 1)), some (vI l5)] [] σ13))))))) :=
  U_at (fun pc => Nat.beq pc 33 || Nat.beq pc 63) 400 rfl
/-! M.watchOf -/
set_option maxRecDepth 100000 in
theorem c_M_watchOf (σ : St) : Cc 335 0 [vR 96 0] σ = cV (Cc 262 0 [vR 96 0] σ) (fun σ1 => cI (Cc 240 0 [vR 96 0] σ1) (fun x3 σ2 => Vv 335 0 17 [some (vR 96 0), some (vI (((1 : Int32) <<< (x3 &&& 31)) - (1 : Int32))), some (vI (((1 : Int32) <<< (x3 &&& 31)) - (1 : Int32))), some (vI 0)] [] σ2)) :=
  (Cc_eq _ _ _ _).trans (U_at (fun pc => Nat.beq pc 17) 400 rfl)
set_option maxRecDepth 100000 in
theorem v_M_watchOf_17 (σ : St) (l1 l2 l3 : Int32) : Vv 335 0 17 [some (vR 96 0), some (vI l1), some (vI l2), some (vI l3)] [] σ = if l3 < l1 then cI (Cc 253 0 [vI l3] σ) (fun x2 σ1 => cI (Cc 253 0 [vI l2] σ1) (fun x4 σ3 => if x2 < x4 then cI (Cc 332 0 [vR 96 0, vI l3] σ3) (fun x6 σ5 => cI (Cc 332 0 [vR 96 0, vI l1] σ5) (fun x8 σ7 => if x6 = x8 then Vv 335 0 17 [some (vR 96 0), some (vI l1), some (vI l3), some (vI (l3 + 1))] [] σ7 else Vv 335 0 17 [some (vR 96 0), some (vI l1), some (vI l2), some (vI (l3 + 1))] [] σ7)) else Vv 335 0 17 [some (vR 96 0), some (vI l1), some (vI l2), some (vI (l3 + 1))] [] σ3)) else some (some (vI l2), σ) :=
  U_at (fun pc => Nat.beq pc 17) 400 rfl
/-! M.watch -/
set_option maxRecDepth 100000 in
theorem c_M_watch (σ : St) : Cc 336 0 [vR 96 0] σ = cI (Cc 239 0 [vR 96 0] (sI σ 96 0 0 0)) (fun x2 σ1 => if x2 = 0 then some (some (vI (-2)), σ1) else cI (Cc 335 0 [vR 96 0] σ1) (fun x4 σ3 => cI (Cc 253 0 [vI x4] σ3) (fun x6 σ5 => some (some (vI x6), σ5)))) :=
  (Cc_eq _ _ _ _).trans (U_at (fun pc => false) 400 rfl)
/-! M.watches -/
set_option maxRecDepth 100000 in
theorem c_M_watches (σ : St) : Cc 337 0 [vR 96 0] σ = cI (Cc 239 0 [vR 96 0] (sI σ 96 0 0 0)) (fun x2 σ1 => if x2 = 0 then some (some (vI (-2)), σ1) else cI (Cc 335 0 [vR 96 0] σ1) (fun x4 σ3 => some (some (vI x4), σ3))) :=
  (Cc_eq _ _ _ _).trans (U_at (fun pc => false) 400 rfl)
/-! M.whyNotBook -/
set_option maxRecDepth 100000 in
theorem c_M_whyNotBook (σ : St) (a1 a2 : Int32) : Cc 338 0 [vR 96 0, vI a1, vI a2] σ = cI (Cc 205 0 [vI a1] σ) (fun x2 σ1 => if x2 = 0 then some (some (vI (-2)), σ1) else cI (Cc 247 0 [vR 96 0, vI a2] σ1) (fun x4 σ3 => if x4 = 0 then some (some (vI (-2)), σ3) else ix a1 4 (fun k5 => if (gI σ3 2345 0 k5) = (-1 : Int32) then some (some (vI (-6)), σ3) else ix a1 4 (fun k6 => if (3 : Int32) = 0 then none else if ((gI σ3 2353 0 k6) - (gI σ3 2353 0 k6) / (3 : Int32) * (3 : Int32)) = 0 then Vv 338 0 47 [some (vR 96 0), some (vI a1), some (vI a2), some (vI 0), none] [] σ3 else some (some (vI (-2)), σ3))))) :=
  (Cc_eq _ _ _ _).trans (U_at (fun pc => Nat.beq pc 47) 400 rfl)
set_option maxRecDepth 100000 in
theorem v_M_whyNotBook_47 (σ : St) (l1 l2 l3 : Int32) : Vv 338 0 47 [some (vR 96 0), some (vI l1), some (vI l2), some (vI l3), none] [] σ = ix l1 4 (fun k1 => if l3 < (gI σ 2353 0 k1) then ix (((60 : Int32) * l1) + l3) 240 (fun k2 => cI (Cc 248 0 [vR 96 0, vL (gL σ 123194 0 k2)] σ) (fun x4 σ3 => if x4 = 0 then some (some (vI (-2)), σ3) else ix ((((60 : Int32) * l1) + l3) + (1 : Int32)) 240 (fun k5 => cI (Cc 245 0 [vR 96 0, vL (gL σ3 123194 0 k5)] σ3) (fun x7 σ6 => if x7 = 0 then some (some (vI (-2)), σ6) else ix ((((60 : Int32) * l1) + l3) + (2 : Int32)) 240 (fun k8 => cI (Cc 204 0 [vL (gL σ6 123194 0 k8), vL 0, vL 1] σ6) (fun x10 σ9 => if x10 = 0 then some (some (vI (-2)), σ9) else Vv 338 0 47 [some (vR 96 0), some (vI l1), some (vI l2), some (vI (l3 + 3)), none] [] σ9)))))) else some (some (vI 0), σ)) :=
  U_at (fun pc => Nat.beq pc 47) 400 rfl
/-! M.isSo -/
set_option maxRecDepth 100000 in
theorem c_M_isSo (σ : St) (a1 a2 : Int32) : Cc 339 0 [vR 96 0, vI a1, vI a2] σ = Vv 339 0 2 [some (vR 96 0), some (vI a1), some (vI a2), some (vI 0), none] [] σ :=
  (Cc_eq _ _ _ _).trans (U_at (fun pc => Nat.beq pc 2) 400 rfl)
set_option maxRecDepth 100000 in
theorem v_M_isSo_2 (σ : St) (l1 l2 l3 : Int32) : Vv 339 0 2 [some (vR 96 0), some (vI l1), some (vI l2), some (vI l3), none] [] σ = ix l1 4 (fun k1 => if l3 < (gI σ 2353 0 k1) then ix (((60 : Int32) * l1) + l3) 240 (fun k2 => cI (Cc 272 0 [vR 96 0, vI l2, vI (Int64.toInt32 (gL σ 123194 0 k2))] σ) (fun x4 σ3 => ix ((((60 : Int32) * l1) + l3) + (1 : Int32)) 240 (fun k5 => cI (Cc 252 0 [vI x4, vI (Int64.toInt32 (gL σ3 123194 0 k5))] σ3) (fun x7 σ6 => ix ((((60 : Int32) * l1) + l3) + (2 : Int32)) 240 (fun k8 => if (lg_cmp (gL σ6 123194 0 k8) 1) = 0 then if x7 = (1 : Int32) then Vv 339 0 2 [some (vR 96 0), some (vI l1), some (vI l2), some (vI (l3 + 3)), none] [] σ6 else retZ 0 σ6 else if x7 = (0 : Int32) then Vv 339 0 2 [some (vR 96 0), some (vI l1), some (vI l2), some (vI (l3 + 3)), none] [] σ6 else retZ 0 σ6))))) else retZ 1 σ) :=
  U_at (fun pc => Nat.beq pc 2) 400 rfl
/-! M.laysFirsts -/
set_option maxRecDepth 100000 in
theorem c_M_laysFirsts (σ : St) (a1 a2 : Int32) : Cc 340 0 [vR 96 0, vI a1, vI a2] σ = Vv 340 0 7 [some (vR 96 0), some (vI a1), some (vI a2), some (vI 0), none, none] [] (sI σ 96 0 41 0) :=
  (Cc_eq _ _ _ _).trans (U_at (fun pc => Nat.beq pc 7 || Nat.beq pc 28 || Nat.beq pc 43 || Nat.beq pc 122 || Nat.beq pc 188 || Nat.beq pc 202) 400 rfl)
set_option maxRecDepth 100000 in
theorem v_M_laysFirsts_7 (σ : St) (l1 l2 l3 : Int32) : Vv 340 0 7 [some (vR 96 0), some (vI l1), some (vI l2), some (vI l3), none, none] [] σ = if l3 < (78 : Int32) then ix l3 78 (fun k1 => Vv 340 0 7 [some (vR 96 0), some (vI l1), some (vI l2), some (vI (l3 + 1)), none, none] [] (sI σ 40417 0 k1 0)) else Vv 340 0 28 [some (vR 96 0), some (vI l1), some (vI l2), some (vI 0), none, none] [] σ :=
  U_at (fun pc => Nat.beq pc 7 || Nat.beq pc 28 || Nat.beq pc 43 || Nat.beq pc 122 || Nat.beq pc 188 || Nat.beq pc 202) 400 rfl
set_option maxRecDepth 100000 in
theorem v_M_laysFirsts_28 (σ : St) (l1 l2 l3 : Int32) : Vv 340 0 28 [some (vR 96 0), some (vI l1), some (vI l2), some (vI l3), none, none] [] σ = cI (Cc 240 0 [vR 96 0] σ) (fun x2 σ1 => if l3 < x2 then cV (Cc 262 0 [vR 96 0] σ1) (fun σ3 => Vv 340 0 43 [some (vR 96 0), some (vI l1), some (vI l2), some (vI l3), some (vI 0), none] [] σ3) else cI (Cc 253 0 [vI (gI (sI σ1 96 0 42 (-1)) 96 0 41)] (sI σ1 96 0 42 (-1))) (fun x5 σ4 => Vv 340 0 188 [some (vR 96 0), some (vI l1), some (vI l2), some (vI 0), none, none] [] (sI σ4 96 0 43 x5))) :=
  U_at (fun pc => Nat.beq pc 7 || Nat.beq pc 28 || Nat.beq pc 43 || Nat.beq pc 122 || Nat.beq pc 188 || Nat.beq pc 202) 400 rfl
set_option maxRecDepth 100000 in
theorem v_M_laysFirsts_43 (σ : St) (l1 l2 l3 l4 : Int32) : Vv 340 0 43 [some (vR 96 0), some (vI l1), some (vI l2), some (vI l3), some (vI l4), none] [] σ = cI (Cc 242 0 [vR 96 0] σ) (fun x2 σ1 => if l4 < x2 then ix l4 6 (fun k3 => if (gI σ1 3497 0 k3) = l3 then ix ((2 : Int32) * l2) 60 (fun k4 => ix l4 6 (fun k5 => Vv 340 0 43 [some (vR 96 0), some (vI l1), some (vI l2), some (vI l3), some (vI (l4 + 1)), none] [] (sI σ1 3497 0 k5 (gI σ1 31113 0 k4)))) else Vv 340 0 43 [some (vR 96 0), some (vI l1), some (vI l2), some (vI l3), some (vI (l4 + 1)), none] [] σ1) else ix l2 6 (fun k6 => cV (Cc 270 0 [vR 96 0] (sI σ1 3497 0 k6 l3)) (fun σ7 => cI (Cc 339 0 [vR 96 0, vI l1, vI l2] σ7) (fun x9 σ8 => if x9 = 0 then Vv 340 0 28 [some (vR 96 0), some (vI l1), some (vI l2), some (vI (l3 + 1)), none, none] [] σ8 else Vv 340 0 122 [some (vR 96 0), some (vI l1), some (vI l2), some (vI l3), some (vI 0), none] [] (sI σ8 96 0 41 ((gI σ8 96 0 41) ||| ((1 : Int32) <<< (l3 &&& 31)))))))) :=
  U_at (fun pc => Nat.beq pc 7 || Nat.beq pc 28 || Nat.beq pc 43 || Nat.beq pc 122 || Nat.beq pc 188 || Nat.beq pc 202) 400 rfl
set_option maxRecDepth 100000 in
theorem v_M_laysFirsts_122 (σ : St) (l1 l2 l3 l4 : Int32) : Vv 340 0 122 [some (vR 96 0), some (vI l1), some (vI l2), some (vI l3), some (vI l4), none] [] σ = cI (Cc 243 0 [vR 96 0] σ) (fun x2 σ1 => if l4 ≤ x2 then ix (((6 : Int32) * l4) + l2) 78 (fun k3 => ix (((6 : Int32) * l4) + (gI σ1 40377 0 k3)) 78 (fun k4 => ix (((6 : Int32) * l4) + (gI σ1 40377 0 k3)) 78 (fun k5 => Vv 340 0 122 [some (vR 96 0), some (vI l1), some (vI l2), some (vI l3), some (vI (l4 + 1)), none] [] (sI σ1 40417 0 k5 ((gI σ1 40417 0 k4) + (1 : Int32)))))) else Vv 340 0 28 [some (vR 96 0), some (vI l1), some (vI l2), some (vI (l3 + 1)), none, none] [] σ1) :=
  U_at (fun pc => Nat.beq pc 7 || Nat.beq pc 28 || Nat.beq pc 43 || Nat.beq pc 122 || Nat.beq pc 188 || Nat.beq pc 202) 400 rfl
set_option maxRecDepth 100000 in
theorem v_M_laysFirsts_188 (σ : St) (l1 l2 l3 : Int32) : Vv 340 0 188 [some (vR 96 0), some (vI l1), some (vI l2), some (vI l3), none, none] [] σ = cI (Cc 243 0 [vR 96 0] σ) (fun x2 σ1 => if l3 ≤ x2 then Vv 340 0 202 [some (vR 96 0), some (vI l1), some (vI l2), some (vI l3), some (vI 0), some (vI 0)] [] σ1 else some (none, σ1)) :=
  U_at (fun pc => Nat.beq pc 7 || Nat.beq pc 28 || Nat.beq pc 43 || Nat.beq pc 122 || Nat.beq pc 188 || Nat.beq pc 202) 400 rfl
set_option maxRecDepth 100000 in
theorem v_M_laysFirsts_202 (σ : St) (l1 l2 l3 l4 l5 : Int32) : Vv 340 0 202 [some (vR 96 0), some (vI l1), some (vI l2), some (vI l3), some (vI l4), some (vI l5)] [] σ = cI (Cc 240 0 [vR 96 0] σ) (fun x2 σ1 => if l5 < x2 then ix (((6 : Int32) * l3) + l5) 78 (fun k3 => cI (Cc 255 0 [vI l4, vI (gI σ1 40417 0 k3)] σ1) (fun x5 σ4 => Vv 340 0 202 [some (vR 96 0), some (vI l1), some (vI l2), some (vI l3), some (vI x5), some (vI (l5 + 1))] [] σ4)) else if l4 < (gI σ1 96 0 43) then Vv 340 0 188 [some (vR 96 0), some (vI l1), some (vI l2), some (vI (l3 + 1)), none, none] [] (sI (sI σ1 96 0 42 l3) 96 0 43 l4) else Vv 340 0 188 [some (vR 96 0), some (vI l1), some (vI l2), some (vI (l3 + 1)), none, none] [] σ1) :=
  U_at (fun pc => Nat.beq pc 7 || Nat.beq pc 28 || Nat.beq pc 43 || Nat.beq pc 122 || Nat.beq pc 188 || Nat.beq pc 202) 400 rfl
/-! M.firsts -/
set_option maxRecDepth 100000 in
theorem c_M_firsts (σ : St) (a1 a2 : Int32) : Cc 341 0 [vR 96 0, vI a1, vI a2] σ = cI (Cc 338 0 [vR 96 0, vI a1, vI a2] (sI σ 96 0 0 0)) (fun x2 σ1 => if x2 = 0 then cV (Cc 340 0 [vR 96 0, vI a1, vI a2] σ1) (fun σ3 => some (some (vI (gI σ3 96 0 41)), σ3)) else some (some (vI x2), σ1)) :=
  (Cc_eq _ _ _ _).trans (U_at (fun pc => false) 400 rfl)
/-! M.ask -/
set_option maxRecDepth 100000 in
theorem c_M_ask (σ : St) (a1 a2 : Int32) : Cc 342 0 [vR 96 0, vI a1, vI a2] σ = cI (Cc 338 0 [vR 96 0, vI a1, vI a2] (sI σ 96 0 0 0)) (fun x2 σ1 => if x2 = 0 then cV (Cc 340 0 [vR 96 0, vI a1, vI a2] σ1) (fun σ3 => some (some (vI (gI σ3 96 0 42)), σ3)) else some (some (vI x2), σ1)) :=
  (Cc_eq _ _ _ _).trans (U_at (fun pc => false) 400 rfl)
/-! M.leaves -/
set_option maxRecDepth 100000 in
theorem c_M_leaves (σ : St) (a1 a2 : Int32) : Cc 343 0 [vR 96 0, vI a1, vI a2] σ = cI (Cc 338 0 [vR 96 0, vI a1, vI a2] (sI σ 96 0 0 0)) (fun x2 σ1 => if x2 = 0 then cV (Cc 340 0 [vR 96 0, vI a1, vI a2] σ1) (fun σ3 => some (some (vI (gI σ3 96 0 43)), σ3)) else some (some (vI x2), σ1)) :=
  (Cc_eq _ _ _ _).trans (U_at (fun pc => false) 400 rfl)
/-! M.joyBy -/
set_option maxRecDepth 100000 in
theorem c_M_joyBy (σ : St) (a1 : Int32) : Cc 344 0 [vR 96 0, vI a1] σ = cV (Cc 262 0 [vR 96 0] σ) (fun σ1 => cV (Cc 270 0 [vR 96 0] (sI σ1 96 0 28 a1)) (fun σ2 => cI (Cc 275 0 [vR 96 0] σ2) (fun x4 σ3 => some (some (vI x4), σ3)))) :=
  (Cc_eq _ _ _ _).trans (U_at (fun pc => false) 400 rfl)
/-! M.laws -/
set_option maxRecDepth 100000 in
theorem c_M_laws (σ : St) (a1 a2 : Int32) : Cc 345 0 [vR 96 0, vI a1, vI a2] σ = cI (Cc 338 0 [vR 96 0, vI a1, vI a2] (sI σ 96 0 0 0)) (fun x2 σ1 => if x2 = 0 then Vv 345 0 24 [some (vR 96 0), some (vI a1), some (vI a2), some (vI x2), some (vI 0), some (vI 0)] [] σ1 else some (some (vI x2), σ1)) :=
  (Cc_eq _ _ _ _).trans (U_at (fun pc => Nat.beq pc 24) 400 rfl)
set_option maxRecDepth 100000 in
theorem v_M_laws_24 (σ : St) (l1 l2 l3 l4 l5 : Int32) : Vv 345 0 24 [some (vR 96 0), some (vI l1), some (vI l2), some (vI l3), some (vI l4), some (vI l5)] [] σ = if l5 < (4 : Int32) then cI (Cc 344 0 [vR 96 0, vI l5] σ) (fun x2 σ1 => cI (Cc 339 0 [vR 96 0, vI l1, vI l2] σ1) (fun x4 σ3 => if x4 = 0 then Vv 345 0 24 [some (vR 96 0), some (vI l1), some (vI l2), some (vI l3), some (vI (l4 ||| (0 : Int32))), some (vI (l5 + 1))] [] σ3 else Vv 345 0 24 [some (vR 96 0), some (vI l1), some (vI l2), some (vI l3), some (vI (l4 ||| ((1 : Int32) <<< (l5 &&& 31)))), some (vI (l5 + 1))] [] σ3)) else some (some (vI l4), σ) :=
  U_at (fun pc => Nat.beq pc 24) 400 rfl
/-! M.by -/
set_option maxRecDepth 100000 in
theorem c_M_by (σ : St) (a1 : Int32) : Cc 346 0 [vR 96 0, vI a1] σ = cI (Cc 239 0 [vR 96 0] (sI σ 96 0 0 0)) (fun x2 σ1 => if x2 = 0 then some (some (vI (-2)), σ1) else cI (Cc 204 0 [vL (Int32.toInt64 a1), vL 0, vL 3] σ1) (fun x4 σ3 => if x4 = 0 then some (some (vI (-2)), σ3) else cI (Cc 344 0 [vR 96 0, vI a1] σ3) (fun x6 σ5 => some (some (vI x6), σ5)))) :=
  (Cc_eq _ _ _ _).trans (U_at (fun pc => false) 400 rfl)
/-! M.law -/
set_option maxRecDepth 100000 in
theorem c_M_law (σ : St) : Cc 347 0 [vR 96 0] σ = cI (Cc 239 0 [vR 96 0] (sI σ 96 0 0 0)) (fun x2 σ1 => if x2 = 0 then some (some (vI (-2)), σ1) else Vv 347 0 19 [some (vR 96 0), some (vI 0), some (vI 1)] [] σ1) :=
  (Cc_eq _ _ _ _).trans (U_at (fun pc => Nat.beq pc 19) 400 rfl)
set_option maxRecDepth 100000 in
theorem v_M_law_19 (σ : St) (l1 l2 : Int32) : Vv 347 0 19 [some (vR 96 0), some (vI l1), some (vI l2)] [] σ = if l2 < (4 : Int32) then cI (Cc 344 0 [vR 96 0, vI l2] σ) (fun x2 σ1 => cI (Cc 344 0 [vR 96 0, vI l1] σ1) (fun x4 σ3 => if x2 ≤ x4 then Vv 347 0 19 [some (vR 96 0), some (vI l1), some (vI (l2 + 1))] [] σ3 else Vv 347 0 19 [some (vR 96 0), some (vI l2), some (vI (l2 + 1))] [] σ3)) else some (some (vI l1), σ) :=
  U_at (fun pc => Nat.beq pc 19) 400 rfl
/-! M.fell -/
set_option maxRecDepth 100000 in
theorem c_M_fell (σ : St) : Cc 348 0 [vR 96 0] σ = cI (Cc 239 0 [vR 96 0] (sI σ 96 0 0 0)) (fun x2 σ1 => if x2 = 0 then some (some (vI (-2)), σ1) else cV (Cc 271 0 [vR 96 0] σ1) (fun σ3 => cI (Cc 275 0 [vR 96 0] σ3) (fun x5 σ4 => Vv 348 0 28 [some (vR 96 0), some (vI (-1)), some (vI x5), some (vI 0)] [] σ4))) :=
  (Cc_eq _ _ _ _).trans (U_at (fun pc => Nat.beq pc 28) 400 rfl)
set_option maxRecDepth 100000 in
theorem v_M_fell_28 (σ : St) (l1 l2 l3 : Int32) : Vv 348 0 28 [some (vR 96 0), some (vI l1), some (vI l2), some (vI l3)] [] σ = ix 5 45 (fun k1 => if l3 < (gI σ 23385 0 k1) then cV (Cc 262 0 [vR 96 0] σ) (fun σ2 => cV (Cc 258 0 [vR 96 0] (sI σ2 96 0 26 ((gI σ2 96 0 26) ||| ((1 : Int32) <<< (l3 &&& 31))))) (fun σ3 => cV (Cc 270 0 [vR 96 0] σ3) (fun σ4 => cI (Cc 275 0 [vR 96 0] σ4) (fun x6 σ5 => if x6 ≤ l2 then Vv 348 0 28 [some (vR 96 0), some (vI l1), some (vI l2), some (vI (l3 + 1))] [] σ5 else cI (Cc 275 0 [vR 96 0] σ5) (fun x8 σ7 => Vv 348 0 28 [some (vR 96 0), some (vI l3), some (vI x8), some (vI (l3 + 1))] [] σ7))))) else some (some (vI l1), σ)) :=
  U_at (fun pc => Nat.beq pc 28) 400 rfl
/-! M.turnedTo -/
set_option maxRecDepth 100000 in
theorem c_M_turnedTo (σ : St) (a1 a2 : Int32) : Cc 349 0 [vR 96 0, vI a1, vI a2] σ = ix ((2 : Int32) * a1) 60 (fun k1 => cI (Cc 240 0 [vR 96 0] σ) (fun x3 σ2 => if x3 = 0 then none else ix (((gI σ 31113 0 k1) + a2) - ((gI σ 31113 0 k1) + a2) / x3 * x3) 6 (fun k4 => some (some (vI (gI σ2 3489 0 k4)), σ2)))) :=
  (Cc_eq _ _ _ _).trans (U_at (fun pc => false) 400 rfl)
/-! M.getsBy -/
set_option maxRecDepth 100000 in
theorem c_M_getsBy (σ : St) (a1 a2 a3 a4 a5 : Int32) : Cc 350 0 [vR 96 0, vI a1, vI a2, vI a3, vI a4, vI a5] σ = cV (Cc 262 0 [vR 96 0] σ) (fun σ1 => cI (Cc 349 0 [vR 96 0, vI a2, vI a4] σ1) (fun x3 σ2 => cI (Cc 349 0 [vR 96 0, vI a3, vI a5] σ2) (fun x5 σ4 => if a1 = a2 then cI (Cc 260 0 [vR 96 0, vI (x3 &&& ((x3 &&& x5) ^^^ (-1 : Int32)))] σ4) (fun x7 σ6 => cI (Cc 260 0 [vR 96 0, vI (x3 &&& x5)] σ6) (fun x9 σ8 => if (2 : Int32) = 0 then none else some (some (vI (x7 + (x9 / (2 : Int32)))), σ8))) else cI (Cc 260 0 [vR 96 0, vI (x5 &&& ((x3 &&& x5) ^^^ (-1 : Int32)))] σ4) (fun x11 σ10 => cI (Cc 260 0 [vR 96 0, vI (x3 &&& x5)] σ10) (fun x13 σ12 => if (2 : Int32) = 0 then none else some (some (vI (x11 + (x13 / (2 : Int32)))), σ12)))))) :=
  (Cc_eq _ _ _ _).trans (U_at (fun pc => false) 400 rfl)
/-! M.rests -/
set_option maxRecDepth 100000 in
theorem c_M_rests (σ : St) (a1 a2 : Int32) : Cc 351 0 [vR 96 0, vI a1, vI a2] σ = cI (Cc 250 0 [vR 96 0, vI a1, vI a2] (sI σ 96 0 0 0)) (fun x2 σ1 => if x2 = 0 then some (some (vI (-2)), σ1) else Vv 351 0 22 [some (vR 96 0), some (vI a1), some (vI a2), some (vI 0), some (vI 0), none, none, none] [] σ1) :=
  (Cc_eq _ _ _ _).trans (U_at (fun pc => Nat.beq pc 22 || Nat.beq pc 40 || Nat.beq pc 101) 400 rfl)
set_option maxRecDepth 100000 in
theorem v_M_rests_22 (σ : St) (l1 l2 l3 l4 : Int32) : Vv 351 0 22 [some (vR 96 0), some (vI l1), some (vI l2), some (vI l3), some (vI l4), none, none, none] [] σ = if l4 < (4 : Int32) then if (2 : Int32) = 0 then none else if (2 : Int32) = 0 then none else Vv 351 0 40 [some (vR 96 0), some (vI l1), some (vI l2), some (vI l3), some (vI l4), some (vI (l4 - l4 / (2 : Int32) * (2 : Int32))), some (vI (l4 / (2 : Int32))), none] [] σ else some (some (vI l3), σ) :=
  U_at (fun pc => Nat.beq pc 22 || Nat.beq pc 40 || Nat.beq pc 101) 400 rfl
set_option maxRecDepth 100000 in
theorem v_M_rests_40 (σ : St) (l1 l2 l3 l4 l5 l6 : Int32) : Vv 351 0 40 [some (vR 96 0), some (vI l1), some (vI l2), some (vI l3), some (vI l4), some (vI l5), some (vI l6), none] [] σ = cI (Cc 350 0 [vR 96 0, vI l1, vI l1, vI l2, vI ((1 : Int32) - l5), vI l6] σ) (fun x2 σ1 => cI (Cc 350 0 [vR 96 0, vI l1, vI l1, vI l2, vI l5, vI l6] σ1) (fun x4 σ3 => if x2 ≤ x4 then cI (Cc 350 0 [vR 96 0, vI l2, vI l1, vI l2, vI l5, vI ((1 : Int32) - l6)] σ3) (fun x6 σ5 => cI (Cc 350 0 [vR 96 0, vI l2, vI l1, vI l2, vI l5, vI l6] σ5) (fun x8 σ7 => if x6 ≤ x8 then Vv 351 0 101 [some (vR 96 0), some (vI l1), some (vI l2), some (vI l3), some (vI l4), some (vI l5), some (vI l6), some (vI 1)] [] σ7 else Vv 351 0 101 [some (vR 96 0), some (vI l1), some (vI l2), some (vI l3), some (vI l4), some (vI l5), some (vI l6), some (vI 0)] [] σ7)) else Vv 351 0 101 [some (vR 96 0), some (vI l1), some (vI l2), some (vI l3), some (vI l4), some (vI l5), some (vI l6), some (vI 0)] [] σ3)) :=
  U_at (fun pc => Nat.beq pc 22 || Nat.beq pc 40 || Nat.beq pc 101) 400 rfl
set_option maxRecDepth 100000 in
theorem v_M_rests_101 (σ : St) (l1 l2 l3 l4 l5 l6 l7 : Int32) : Vv 351 0 101 [some (vR 96 0), some (vI l1), some (vI l2), some (vI l3), some (vI l4), some (vI l5), some (vI l6), some (vI l7)] [] σ = if l7 = 0 then Vv 351 0 22 [some (vR 96 0), some (vI l1), some (vI l2), some (vI (l3 ||| (0 : Int32))), some (vI (l4 + 1)), none, none, none] [] σ else Vv 351 0 22 [some (vR 96 0), some (vI l1), some (vI l2), some (vI (l3 ||| ((1 : Int32) <<< (l4 &&& 31)))), some (vI (l4 + 1)), none, none, none] [] σ :=
  U_at (fun pc => Nat.beq pc 22 || Nat.beq pc 40 || Nat.beq pc 101) 400 rfl
/-! M.gets -/
set_option maxRecDepth 100000 in
theorem c_M_gets (σ : St) (a1 a2 a3 a4 : Int32) : Cc 352 0 [vR 96 0, vI a1, vI a2, vI a3, vI a4] σ = cI (Cc 250 0 [vR 96 0, vI a1, vI a2] (sI σ 96 0 0 0)) (fun x2 σ1 => if x2 = 0 then some (some (vI (-1000)), σ1) else cI (Cc 251 0 [vI a3] σ1) (fun x4 σ3 => if x4 = 0 then some (some (vI (-1000)), σ3) else cI (Cc 251 0 [vI a4] σ3) (fun x6 σ5 => if x6 = 0 then some (some (vI (-1000)), σ5) else cI (Cc 350 0 [vR 96 0, vI a1, vI a1, vI a2, vI a3, vI a4] σ5) (fun x8 σ7 => some (some (vI x8), σ7))))) :=
  (Cc_eq _ _ _ _).trans (U_at (fun pc => false) 400 rfl)
/-! M.power -/
set_option maxRecDepth 100000 in
theorem c_M_power (σ : St) (rq : Nat) (a2 : Int32) (a1 : Int64) : Cc 353 (rq + 1) [vL a1, vI a2] σ = if a2 = 0 then some (some (vL 1), σ) else cL (Cc 353 rq [vL a1, vI (a2 - (1 : Int32))] σ) (fun x2 σ1 => some (some (vL (a1 * x2)), σ1)) :=
  (Cc_eq _ _ _ _).trans (U_at (fun pc => false) 400 rfl)
/-! M.weightOf -/
set_option maxRecDepth 100000 in
theorem c_M_weightOf (σ : St) (a1 a2 a3 : Int32) : Cc 354 0 [vR 96 0, vI a1, vI a2, vI a3] σ = cV (Cc 262 0 [vR 96 0] σ) (fun σ1 => Vv 354 0 10 [some (vR 96 0), some (vI a1), some (vI a2), some (vI a3), some (vL 0), none, some (vI 0), none] [] σ1) :=
  (Cc_eq _ _ _ _).trans (U_at (fun pc => Nat.beq pc 10 || Nat.beq pc 41) 400 rfl)
set_option maxRecDepth 100000 in
theorem v_M_weightOf_10 (σ : St) (l1 l2 l3 l6 : Int32) (l4 : Int64) : Vv 354 0 10 [some (vR 96 0), some (vI l1), some (vI l2), some (vI l3), some (vL l4), none, some (vI l6), none] [] σ = if l6 < ((1 : Int32) <<< (l3 &&& 31)) then cV (Cc 270 0 [vR 96 0] (sI σ 96 0 29 l6)) (fun σ1 => ix (((6 : Int32) * l3) + l1) 78 (fun k2 => Vv 354 0 41 [some (vR 96 0), some (vI l1), some (vI l2), some (vI l3), some (vL l4), none, some (vI l6), some (vI (gI σ1 40377 0 k2))] [] σ1)) else some (some (vL l4), σ) :=
  U_at (fun pc => Nat.beq pc 10 || Nat.beq pc 41) 400 rfl
set_option maxRecDepth 100000 in
theorem v_M_weightOf_41 (σ : St) (l1 l2 l3 l6 l7 : Int32) (l4 : Int64) : Vv 354 0 41 [some (vR 96 0), some (vI l1), some (vI l2), some (vI l3), some (vL l4), none, some (vI l6), some (vI l7)] [] σ = ix 2 45 (fun k1 => cI (Cc 253 0 [vI l6] σ) (fun x3 σ2 => cL (Cc 353 12 [vL (Int32.toInt64 (gI σ 23385 0 k1)), vI x3] σ2) (fun x5 σ4 => ix 2 45 (fun k6 => cI (Cc 253 0 [vI l6] σ4) (fun x8 σ7 => cL (Cc 353 12 [vL ((10 : Int64) - (Int32.toInt64 (gI σ4 23385 0 k6))), vI (l3 - x8)] σ7) (fun x10 σ9 => if l2 = (-1 : Int32) then cI (Cc 261 0 [vR 96 0, vI l7] σ9) (fun x12 σ11 => Vv 354 0 10 [some (vR 96 0), some (vI l1), some (vI l2), some (vI l3), some (vL (l4 + ((x5 * x10) * (Int32.toInt64 x12)))), none, some (vI (l6 + 1)), none] [] σ11) else if l7 = l2 then Vv 354 0 10 [some (vR 96 0), some (vI l1), some (vI l2), some (vI l3), some (vL (l4 + ((x5 * x10) * (Int32.toInt64 1)))), none, some (vI (l6 + 1)), none] [] σ9 else Vv 354 0 10 [some (vR 96 0), some (vI l1), some (vI l2), some (vI l3), some (vL (l4 + ((x5 * x10) * (Int32.toInt64 0)))), none, some (vI (l6 + 1)), none] [] σ9)))))) :=
  U_at (fun pc => Nat.beq pc 10 || Nat.beq pc 41) 400 rfl
/-! M.isSoon -/
set_option maxRecDepth 100000 in
theorem c_M_isSoon (σ : St) (a1 : Int32) : Cc 355 0 [vR 96 0, vI a1] σ = cI (Cc 243 0 [vR 96 0] σ) (fun x2 σ1 => cI (Cc 254 0 [vI 8, vI x2] σ1) (fun x4 σ3 => cI (Cc 204 0 [vL (Int32.toInt64 a1), vL 1, vL (Int32.toInt64 x4)] σ3) (fun x6 σ5 => retZ x6 σ5))) :=
  (Cc_eq _ _ _ _).trans (U_at (fun pc => false) 400 rfl)
/-! M.chance -/
set_option maxRecDepth 100000 in
theorem c_M_chance (σ : St) (a1 a2 a3 a4 : Int32) : Cc 356 0 [vR 96 0, vI a1, vI a2, vI a3, vI a4] σ = cI (Cc 247 0 [vR 96 0, vI a1] (sI σ 96 0 0 0)) (fun x2 σ1 => if x2 = 0 then some (some (vI (-2)), σ1) else cI (Cc 244 0 [vR 96 0, vL (Int32.toInt64 a2)] σ1) (fun x4 σ3 => if x4 = 0 then some (some (vI (-2)), σ3) else cI (Cc 355 0 [vR 96 0, vI a3] σ3) (fun x6 σ5 => if x6 = 0 then some (some (vI (-2)), σ5) else cI (Cc 251 0 [vI a4] σ5) (fun x8 σ7 => if x8 = 0 then some (some (vI (-2)), σ7) else cL (Cc 354 0 [vR 96 0, vI a1, vI a2, vI a3] σ7) (fun x10 σ9 => cL (Cc 353 12 [vL 10, vI a3] σ9) (fun x12 σ11 => cL (Cc 328 0 [vL x10, vL x12, vI a4] σ11) (fun x14 σ13 => some (some (vI (Int64.toInt32 x14)), σ13)))))))) :=
  (Cc_eq _ _ _ _).trans (U_at (fun pc => false) 400 rfl)
/-! M.mean -/
set_option maxRecDepth 100000 in
theorem c_M_mean (σ : St) (a1 a2 a3 : Int32) : Cc 357 0 [vR 96 0, vI a1, vI a2, vI a3] σ = cI (Cc 247 0 [vR 96 0, vI a1] (sI σ 96 0 0 0)) (fun x2 σ1 => if x2 = 0 then some (some (vL (-2)), σ1) else cI (Cc 355 0 [vR 96 0, vI a2] σ1) (fun x4 σ3 => if x4 = 0 then some (some (vL (-2)), σ3) else cI (Cc 251 0 [vI a3] σ3) (fun x6 σ5 => if x6 = 0 then some (some (vL (-2)), σ5) else cL (Cc 354 0 [vR 96 0, vI a1, vI (-1), vI a2] σ5) (fun x8 σ7 => cL (Cc 353 12 [vL 10, vI a2] σ7) (fun x10 σ9 => cL (Cc 328 0 [vL x8, vL x10, vI a3] σ9) (fun x12 σ11 => some (some (vL x12), σ11))))))) :=
  (Cc_eq _ _ _ _).trans (U_at (fun pc => false) 400 rfl)
/-! M.draws -/
set_option maxRecDepth 100000 in
theorem c_M_draws (σ : St) (a1 : Int64) : Cc 358 0 [vR 96 0, vL a1] σ = cV (Cc 262 0 [vR 96 0] σ) (fun σ1 => Vv 358 0 14 [some (vR 96 0), some (vL a1), none, some (vL a1), none, some (vI 0)] [] (sI σ1 96 0 29 0)) :=
  (Cc_eq _ _ _ _).trans (U_at (fun pc => Nat.beq pc 14 || Nat.beq pc 37) 400 rfl)
set_option maxRecDepth 100000 in
theorem v_M_draws_14 (σ : St) (l5 : Int32) (l1 l3 : Int64) : Vv 358 0 14 [some (vR 96 0), some (vL l1), none, some (vL l3), none, some (vI l5)] [] σ = cI (Cc 243 0 [vR 96 0] σ) (fun x2 σ1 => if l5 < x2 then if (2147483648 : Int64) = 0 then none else Vv 358 0 37 [some (vR 96 0), some (vL l1), none, some (vL ((((1103515245 : Int64) * l3) + (12345 : Int64)) - (((1103515245 : Int64) * l3) + (12345 : Int64)) / (2147483648 : Int64) * (2147483648 : Int64))), none, some (vI l5)] [] σ1 else cV (Cc 270 0 [vR 96 0] σ1) (fun σ3 => some (none, σ3))) :=
  U_at (fun pc => Nat.beq pc 14 || Nat.beq pc 37) 400 rfl
set_option maxRecDepth 100000 in
theorem v_M_draws_37 (σ : St) (l5 : Int32) (l1 l3 : Int64) : Vv 358 0 37 [some (vR 96 0), some (vL l1), none, some (vL l3), none, some (vI l5)] [] σ = if (65536 : Int64) = 0 then none else if (10 : Int64) = 0 then none else ix 2 45 (fun k1 => if (lg_cmp ((l3 / (65536 : Int64)) - (l3 / (65536 : Int64)) / (10 : Int64) * (10 : Int64)) (Int32.toInt64 (gI σ 23385 0 k1))) < 0 then Vv 358 0 14 [some (vR 96 0), some (vL l1), none, some (vL l3), none, some (vI (l5 + 1))] [] (sI σ 96 0 29 ((gI σ 96 0 29) ||| ((1 : Int32) <<< (l5 &&& 31)))) else Vv 358 0 14 [some (vR 96 0), some (vL l1), none, some (vL l3), none, some (vI (l5 + 1))] [] (sI σ 96 0 29 ((gI σ 96 0 29) ||| (0 : Int32)))) :=
  U_at (fun pc => Nat.beq pc 14 || Nat.beq pc 37) 400 rfl
/-! M.isSeed -/
set_option maxRecDepth 100000 in
theorem c_M_isSeed (σ : St) (a1 : Int32) : Cc 359 0 [vI a1] σ = cI (Cc 204 0 [vL (Int32.toInt64 a1), vL 0, vL 2000000000] σ) (fun x2 σ1 => retZ x2 σ1) :=
  (Cc_eq _ _ _ _).trans (U_at (fun pc => false) 400 rfl)
/-! M.drawn -/
set_option maxRecDepth 100000 in
theorem c_M_drawn (σ : St) (a1 a2 : Int32) : Cc 360 0 [vR 96 0, vI a1, vI a2] σ = cI (Cc 239 0 [vR 96 0] (sI σ 96 0 0 0)) (fun x2 σ1 => if x2 = 0 then some (some (vI (-2)), σ1) else cI (Cc 359 0 [vI a1] σ1) (fun x4 σ3 => if x4 = 0 then some (some (vI (-2)), σ3) else cI (Cc 251 0 [vI a2] σ3) (fun x6 σ5 => if x6 = 0 then some (some (vI (-2)), σ5) else cV (Cc 358 0 [vR 96 0, vL (Int32.toInt64 a1)] σ5) (fun σ7 => if a2 = 0 then some (some (vI (gI σ7 96 0 29)), σ7) else cI (Cc 275 0 [vR 96 0] σ7) (fun x9 σ8 => some (some (vI x9), σ8)))))) :=
  (Cc_eq _ _ _ _).trans (U_at (fun pc => false) 400 rfl)
/-! M.luck -/
set_option maxRecDepth 100000 in
theorem c_M_luck (σ : St) (a1 a2 a3 : Int32) : Cc 361 0 [vR 96 0, vI a1, vI a2, vI a3] σ = cI (Cc 359 0 [vI a1] (sI σ 96 0 0 0)) (fun x2 σ1 => if x2 = 0 then some (some (vI (-2)), σ1) else cI (Cc 204 0 [vL (Int32.toInt64 a2), vL 1, vL 20] σ1) (fun x4 σ3 => if x4 = 0 then some (some (vI (-2)), σ3) else cI (Cc 247 0 [vR 96 0, vI a3] σ3) (fun x6 σ5 => if x6 = 0 then some (some (vI (-2)), σ5) else Vv 361 0 41 [some (vR 96 0), some (vI a1), some (vI a2), some (vI a3), some (vI 0), some (vI 0)] [] σ5))) :=
  (Cc_eq _ _ _ _).trans (U_at (fun pc => Nat.beq pc 41) 400 rfl)
set_option maxRecDepth 100000 in
theorem v_M_luck_41 (σ : St) (l1 l2 l3 l4 l5 : Int32) : Vv 361 0 41 [some (vR 96 0), some (vI l1), some (vI l2), some (vI l3), some (vI l4), some (vI l5)] [] σ = if l5 < l2 then cV (Cc 358 0 [vR 96 0, vL ((Int32.toInt64 l1) + (Int32.toInt64 l5))] σ) (fun σ1 => cI (Cc 277 0 [vR 96 0, vI l3] σ1) (fun x3 σ2 => if x3 = (-1 : Int32) then Vv 361 0 41 [some (vR 96 0), some (vI l1), some (vI l2), some (vI l3), some (vI (l4 + (0 : Int32))), some (vI (l5 + 1))] [] σ2 else Vv 361 0 41 [some (vR 96 0), some (vI l1), some (vI l2), some (vI l3), some (vI (l4 + (1 : Int32))), some (vI (l5 + 1))] [] σ2)) else some (some (vI l4), σ) :=
  U_at (fun pc => Nat.beq pc 41) 400 rfl
/-! M.does -/
set_option maxRecDepth 100000 in
theorem c_M_does (σ : St) (a1 a2 a3 a4 : Int32) : Cc 362 0 [vR 96 0, vI a1, vI a2, vI a3, vI a4] σ = ix 8 45 (fun k1 => ix ((4 : Int32) * (gI σ 23385 0 k1)) 600 (fun k2 => ix (((4 : Int32) * (gI σ 23385 0 k1)) + (1 : Int32)) 600 (fun k3 => ix (((4 : Int32) * (gI σ 23385 0 k1)) + (2 : Int32)) 600 (fun k4 => ix (((4 : Int32) * (gI σ 23385 0 k1)) + (3 : Int32)) 600 (fun k5 => ix 8 45 (fun k6 => ix 8 45 (fun k7 => some (none, sI (sI (sI (sI (sI σ 307601 0 k2 a1) 307601 0 k3 a2) 307601 0 k4 a3) 307601 0 k5 a4) 23385 0 k7 ((gI (sI (sI (sI (sI σ 307601 0 k2 a1) 307601 0 k3 a2) 307601 0 k4 a3) 307601 0 k5 a4) 23385 0 k6) + (1 : Int32)))))))))) :=
  (Cc_eq _ _ _ _).trans (U_at (fun pc => false) 400 rfl)
/-! M.swap -/
set_option maxRecDepth 100000 in
theorem c_M_swap (σ : St) (a1 a2 a3 : Int32) : Cc 363 0 [vR 96 0, vI a1, vI a2, vI a3] σ = cI (Cc 250 0 [vR 96 0, vI a1, vI a2] (sI σ 96 0 0 0)) (fun x2 σ1 => if x2 = 0 then some (some (vI (-2)), σ1) else cI (Cc 249 0 [vR 96 0, vI a3] σ1) (fun x4 σ3 => if x4 = 0 then some (some (vI (-2)), σ3) else ix 8 45 (fun k5 => if (gI σ3 23385 0 k5) = (30 : Int32) then some (some (vI (-5)), σ3) else cV (Cc 362 0 [vR 96 0, vI (-1), vI a1, vI a2, vI a3] σ3) (fun σ6 => cV (Cc 271 0 [vR 96 0] σ6) (fun σ7 => cI (Cc 243 0 [vR 96 0] σ7) (fun x9 σ8 => ix (((6 : Int32) * x9) + a1) 78 (fun k10 => some (some (vI (gI σ8 40377 0 k10)), σ8)))))))) :=
  (Cc_eq _ _ _ _).trans (U_at (fun pc => false) 400 rfl)
/-! M.clear -/
set_option maxRecDepth 100000 in
theorem c_M_clear (σ : St) (a1 : Int32) : Cc 364 0 [vR 96 0, vI a1] σ = cI (Cc 246 0 [vR 96 0, vI a1] (sI σ 96 0 0 0)) (fun x2 σ1 => if x2 = 0 then some (some (vI (-2)), σ1) else ix 8 45 (fun k3 => if (gI σ1 23385 0 k3) = (30 : Int32) then some (some (vI (-5)), σ1) else cV (Cc 259 0 [vR 96 0] σ1) (fun σ4 => cI (Cc 252 0 [vI (gI σ4 96 0 26), vI a1] σ4) (fun x6 σ5 => if x6 = 0 then cV (Cc 362 0 [vR 96 0, vI a1, vI 0, vI 0, vI (-1)] σ5) (fun σ7 => some (some (vI 1), σ7)) else cV (Cc 362 0 [vR 96 0, vI a1, vI 0, vI 0, vI (-1)] σ5) (fun σ8 => some (some (vI 0), σ8)))))) :=
  (Cc_eq _ _ _ _).trans (U_at (fun pc => false) 400 rfl)
/-! M.undo -/
set_option maxRecDepth 100000 in
theorem c_M_undo (σ : St) : Cc 365 0 [vR 96 0] σ = cI (Cc 239 0 [vR 96 0] (sI σ 96 0 0 0)) (fun x2 σ1 => if x2 = 0 then some (some (vI (-2)), σ1) else ix 8 45 (fun k3 => if (gI σ1 23385 0 k3) = 0 then some (some (vI (-5)), σ1) else ix 8 45 (fun k4 => ix 8 45 (fun k5 => ix 8 45 (fun k6 => some (some (vI (gI (sI σ1 23385 0 k5 ((gI σ1 23385 0 k4) - (1 : Int32))) 23385 0 k6)), sI σ1 23385 0 k5 ((gI σ1 23385 0 k4) - (1 : Int32)))))))) :=
  (Cc_eq _ _ _ _).trans (U_at (fun pc => false) 400 rfl)
/-! M.anew -/
set_option maxRecDepth 100000 in
theorem c_M_anew (σ : St) : Cc 366 0 [vR 96 0] σ = cI (Cc 239 0 [vR 96 0] (sI σ 96 0 0 0)) (fun x2 σ1 => if x2 = 0 then some (some (vI (-2)), σ1) else ix 8 45 (fun k3 => ix 8 45 (fun k4 => some (some (vI (gI σ1 23385 0 k3)), sI σ1 23385 0 k4 0)))) :=
  (Cc_eq _ _ _ _).trans (U_at (fun pc => false) 400 rfl)
/-! M.rate -/
set_option maxRecDepth 100000 in
theorem c_M_rate (σ : St) (a1 a2 : Int32) : Cc 367 0 [vR 96 0, vI a1, vI a2] σ = cI (Cc 245 0 [vR 96 0, vL (Int32.toInt64 a1)] (sI σ 96 0 0 0)) (fun x2 σ1 => if x2 = 0 then some (some (vI (-2)), σ1) else cI (Cc 204 0 [vL (Int32.toInt64 a2), vL 0, vL 99] σ1) (fun x4 σ3 => if x4 = 0 then some (some (vI (-2)), σ3) else ix 8 45 (fun k5 => if (gI σ3 23385 0 k5) ≤ 0 then ix a1 35 (fun k6 => ix a1 35 (fun k7 => some (some (vI (gI σ3 18289 0 k6)), sI σ3 18289 0 k7 a2))) else some (some (vI (-5)), σ3)))) :=
  (Cc_eq _ _ _ _).trans (U_at (fun pc => false) 400 rfl)
/-! M.count -/
set_option maxRecDepth 100000 in
theorem c_M_count (σ : St) (a1 : Int32) : Cc 368 0 [vR 96 0, vI a1] σ = cI (Cc 204 0 [vL (Int32.toInt64 a1), vL 0, vL 8] (sI σ 96 0 0 0)) (fun x2 σ1 => if x2 = 0 then if Int32.toInt a1 = 9 then ix 0 5 (fun k3 => some (some (vI (gI σ1 2897 0 k3)), σ1)) else if Int32.toInt a1 = 9 + 1 then some (some (vI (gI σ1 96 0 6)), σ1) else if Int32.toInt a1 = 9 + 1 + 1 then Vv 368 0 66 [some (vR 96 0), some (vI a1), some (vI 0), some (vI 0)] [] σ1 else some (some (vI (-1)), σ1) else ix a1 45 (fun k4 => some (some (vI (gI σ1 23385 0 k4)), σ1))) :=
  (Cc_eq _ _ _ _).trans (U_at (fun pc => Nat.beq pc 66) 400 rfl)
set_option maxRecDepth 100000 in
theorem v_M_count_66 (σ : St) (l1 l2 l3 : Int32) : Vv 368 0 66 [some (vR 96 0), some (vI l1), some (vI l2), some (vI l3)] [] σ = if l3 < (4 : Int32) then ix l3 4 (fun k1 => if (gI σ 2345 0 k1) = (-1 : Int32) then Vv 368 0 66 [some (vR 96 0), some (vI l1), some (vI (l2 + (0 : Int32))), some (vI (l3 + 1))] [] σ else Vv 368 0 66 [some (vR 96 0), some (vI l1), some (vI (l2 + (1 : Int32))), some (vI (l3 + 1))] [] σ) else some (some (vI l2), σ) :=
  U_at (fun pc => Nat.beq pc 66) 400 rfl
/-! M.image -/
set_option maxRecDepth 100000 in
theorem c_M_image (σ : St) (a1 : Int32) : Cc 369 0 [vR 96 0, vI a1] σ = cI (Cc 204 0 [vL (Int32.toInt64 a1), vL 0, vL 2] (sI σ 96 0 0 0)) (fun x2 σ1 => if x2 = 0 then some (some (vI (-2)), σ1) else cV (Cc 238 0 [vR 96 0, vI 0, vI ((1 : Int32) + a1)] σ1) (fun σ3 => if (1 : Int32) = 0 ∨ (1 : Int32) = 1 then ix a1 3 (fun k4 => some (some (vI 0), sI σ3 1948 0 k4 1)) else none)) :=
  (Cc_eq _ _ _ _).trans (U_at (fun pc => false) 400 rfl)
/-! M.back -/
set_option maxRecDepth 100000 in
theorem c_M_back (σ : St) (a1 : Int32) : Cc 370 0 [vR 96 0, vI a1] σ = cI (Cc 204 0 [vL (Int32.toInt64 a1), vL 0, vL 2] (sI σ 96 0 0 0)) (fun x2 σ1 => if x2 = 0 then some (some (vI (-2)), σ1) else ix a1 3 (fun k3 => if (gI σ1 1948 0 k3) = 0 then some (some (vI (-6)), σ1) else cV (Cc 238 0 [vR 96 0, vI ((1 : Int32) + a1), vI 0] σ1) (fun σ4 => some (some (vI 0), σ4)))) :=
  (Cc_eq _ _ _ _).trans (U_at (fun pc => false) 400 rfl)
/-! Integer.bitCount -/
set_option maxRecDepth 100000 in
theorem c_Integer_bitCount (σ : St) (a1 : Int32) : Cc 371 0 [vI a1] σ = some (some (vI ((((((((a1 - (((Int32.toUInt32 a1 >>> (Int32.toUInt32 1 &&& Int32.toUInt32 31)).toInt32) &&& (1431655765 : Int32))) &&& (858993459 : Int32)) + (((Int32.toUInt32 (a1 - (((Int32.toUInt32 a1 >>> (Int32.toUInt32 1 &&& Int32.toUInt32 31)).toInt32) &&& (1431655765 : Int32))) >>> (Int32.toUInt32 2 &&& Int32.toUInt32 31)).toInt32) &&& (858993459 : Int32))) + ((Int32.toUInt32 (((a1 - (((Int32.toUInt32 a1 >>> (Int32.toUInt32 1 &&& Int32.toUInt32 31)).toInt32) &&& (1431655765 : Int32))) &&& (858993459 : Int32)) + (((Int32.toUInt32 (a1 - (((Int32.toUInt32 a1 >>> (Int32.toUInt32 1 &&& Int32.toUInt32 31)).toInt32) &&& (1431655765 : Int32))) >>> (Int32.toUInt32 2 &&& Int32.toUInt32 31)).toInt32) &&& (858993459 : Int32))) >>> (Int32.toUInt32 4 &&& Int32.toUInt32 31)).toInt32)) &&& (252645135 : Int32)) + ((Int32.toUInt32 (((((a1 - (((Int32.toUInt32 a1 >>> (Int32.toUInt32 1 &&& Int32.toUInt32 31)).toInt32) &&& (1431655765 : Int32))) &&& (858993459 : Int32)) + (((Int32.toUInt32 (a1 - (((Int32.toUInt32 a1 >>> (Int32.toUInt32 1 &&& Int32.toUInt32 31)).toInt32) &&& (1431655765 : Int32))) >>> (Int32.toUInt32 2 &&& Int32.toUInt32 31)).toInt32) &&& (858993459 : Int32))) + ((Int32.toUInt32 (((a1 - (((Int32.toUInt32 a1 >>> (Int32.toUInt32 1 &&& Int32.toUInt32 31)).toInt32) &&& (1431655765 : Int32))) &&& (858993459 : Int32)) + (((Int32.toUInt32 (a1 - (((Int32.toUInt32 a1 >>> (Int32.toUInt32 1 &&& Int32.toUInt32 31)).toInt32) &&& (1431655765 : Int32))) >>> (Int32.toUInt32 2 &&& Int32.toUInt32 31)).toInt32) &&& (858993459 : Int32))) >>> (Int32.toUInt32 4 &&& Int32.toUInt32 31)).toInt32)) &&& (252645135 : Int32)) >>> (Int32.toUInt32 8 &&& Int32.toUInt32 31)).toInt32)) + ((Int32.toUInt32 ((((((a1 - (((Int32.toUInt32 a1 >>> (Int32.toUInt32 1 &&& Int32.toUInt32 31)).toInt32) &&& (1431655765 : Int32))) &&& (858993459 : Int32)) + (((Int32.toUInt32 (a1 - (((Int32.toUInt32 a1 >>> (Int32.toUInt32 1 &&& Int32.toUInt32 31)).toInt32) &&& (1431655765 : Int32))) >>> (Int32.toUInt32 2 &&& Int32.toUInt32 31)).toInt32) &&& (858993459 : Int32))) + ((Int32.toUInt32 (((a1 - (((Int32.toUInt32 a1 >>> (Int32.toUInt32 1 &&& Int32.toUInt32 31)).toInt32) &&& (1431655765 : Int32))) &&& (858993459 : Int32)) + (((Int32.toUInt32 (a1 - (((Int32.toUInt32 a1 >>> (Int32.toUInt32 1 &&& Int32.toUInt32 31)).toInt32) &&& (1431655765 : Int32))) >>> (Int32.toUInt32 2 &&& Int32.toUInt32 31)).toInt32) &&& (858993459 : Int32))) >>> (Int32.toUInt32 4 &&& Int32.toUInt32 31)).toInt32)) &&& (252645135 : Int32)) + ((Int32.toUInt32 (((((a1 - (((Int32.toUInt32 a1 >>> (Int32.toUInt32 1 &&& Int32.toUInt32 31)).toInt32) &&& (1431655765 : Int32))) &&& (858993459 : Int32)) + (((Int32.toUInt32 (a1 - (((Int32.toUInt32 a1 >>> (Int32.toUInt32 1 &&& Int32.toUInt32 31)).toInt32) &&& (1431655765 : Int32))) >>> (Int32.toUInt32 2 &&& Int32.toUInt32 31)).toInt32) &&& (858993459 : Int32))) + ((Int32.toUInt32 (((a1 - (((Int32.toUInt32 a1 >>> (Int32.toUInt32 1 &&& Int32.toUInt32 31)).toInt32) &&& (1431655765 : Int32))) &&& (858993459 : Int32)) + (((Int32.toUInt32 (a1 - (((Int32.toUInt32 a1 >>> (Int32.toUInt32 1 &&& Int32.toUInt32 31)).toInt32) &&& (1431655765 : Int32))) >>> (Int32.toUInt32 2 &&& Int32.toUInt32 31)).toInt32) &&& (858993459 : Int32))) >>> (Int32.toUInt32 4 &&& Int32.toUInt32 31)).toInt32)) &&& (252645135 : Int32)) >>> (Int32.toUInt32 8 &&& Int32.toUInt32 31)).toInt32)) >>> (Int32.toUInt32 16 &&& Int32.toUInt32 31)).toInt32)) &&& (63 : Int32))), σ) :=
  (Cc_eq _ _ _ _).trans (U_at (fun pc => false) 400 rfl)
