/-! BLOCKS: by program (wip/whole/blocks.py, split.py) -/
/-! M.in -/
set_option maxRecDepth 100000 in
theorem c_M_in (σ : St) (a1 a2 a3 : Int64) : Cc 204 0 [vL a1, vL a2, vL a3] σ = if (lg_cmp a1 a2) < 0 then retZ 0 σ else if (lg_cmp a1 a3) ≤ 0 then retZ 1 σ else retZ 0 σ :=
  (Cc_eq _ _ _ _).trans (U_at (fun pc => false) 400 rfl)
/-! M.isSlot -/
set_option maxRecDepth 100000 in
theorem c_M_isSlot (σ : St) (a1 : Int32) : Cc 205 0 [vI a1] σ = cI (Cc 204 0 [vL (Int32.toInt64 a1), vL 0, vL 3] σ) (fun x2 σ1 => retZ x2 σ1) :=
  (Cc_eq _ _ _ _).trans (U_at (fun pc => false) 400 rfl)
/-! M.row -/
set_option maxRecDepth 100000 in
theorem c_M_row (σ : St) (a1 a2 a3 : Int32) : Cc 206 0 [vR 96 0, vI a1, vI a2, vI a3] σ = cI (Cc 205 0 [vI a1] (sI σ 96 0 0 0)) (fun x2 σ1 => if x2 = 0 then some (some (vI (-2)), σ1) else cI (Cc 204 0 [vL (Int32.toInt64 a2), vL 0, vL 3] σ1) (fun x4 σ3 => if x4 = 0 then some (some (vI (-2)), σ3) else if a3 ≤ (60 : Int32) then if a3 < 0 then some (some (vI (-3)), σ3) else ix a1 4 (fun k5 => ix a1 4 (fun k6 => Vv 206 0 57 [some (vR 96 0), some (vI a1), some (vI a2), some (vI a3), some (vI 0)] [] (sI (sI σ3 2345 0 k5 a2) 2353 0 k6 a3))) else some (some (vI (-2)), σ3))) :=
  (Cc_eq _ _ _ _).trans (U_at (fun pc => Nat.beq pc 57) 400 rfl)
set_option maxRecDepth 100000 in
theorem v_M_row_57 (σ : St) (l1 l2 l3 l4 : Int32) : Vv 206 0 57 [some (vR 96 0), some (vI l1), some (vI l2), some (vI l3), some (vI l4)] [] σ = if l4 < l3 then ix (((60 : Int32) * l1) + l4) 240 (fun k1 => Vv 206 0 57 [some (vR 96 0), some (vI l1), some (vI l2), some (vI l3), some (vI (l4 + 1))] [] (sL σ 123194 0 k1 0)) else some (some (vI 0), σ) :=
  U_at (fun pc => Nat.beq pc 57) 400 rfl
/-! M.cut -/
set_option maxRecDepth 100000 in
theorem c_M_cut (σ : St) (a2 : Int32) (a1 : Int64) : Cc 207 0 [vL a1, vI a2] σ = if a2 = 0 then some (some (vL (Int32.toInt64 ((Int32.toInt8 (Int64.toInt32 a1)).toInt32))), σ) else if a2 = (1 : Int32) then some (some (vL (Int32.toInt64 ((Int32.toInt16 (Int64.toInt32 a1)).toInt32))), σ) else if a2 = (2 : Int32) then some (some (vL (Int32.toInt64 (Int64.toInt32 a1))), σ) else some (some (vL a1), σ) :=
  (Cc_eq _ _ _ _).trans (U_at (fun pc => false) 400 rfl)
/-! M.write -/
set_option maxRecDepth 100000 in
theorem c_M_write (σ : St) (a1 a2 : Int32) (a3 : Int64) : Cc 208 0 [vR 96 0, vI a1, vI a2, vL a3] σ = cI (Cc 205 0 [vI a1] (sI σ 96 0 0 0)) (fun x2 σ1 => if x2 = 0 then some (some (vI (-2)), σ1) else ix a1 4 (fun k3 => if (gI σ1 2345 0 k3) = (-1 : Int32) then some (some (vI (-6)), σ1) else ix a1 4 (fun k4 => cI (Cc 204 0 [vL (Int32.toInt64 a2), vL 0, vL (Int32.toInt64 ((gI σ1 2353 0 k4) - (1 : Int32)))] σ1) (fun x6 σ5 => if x6 = 0 then some (some (vI (-7)), σ5) else ix a1 4 (fun k7 => cL (Cc 207 0 [vL a3, vI (gI σ5 2345 0 k7)] σ5) (fun x9 σ8 => ix (((60 : Int32) * a1) + a2) 240 (fun k10 => some (some (vI 0), sL σ8 123194 0 k10 x9)))))))) :=
  (Cc_eq _ _ _ _).trans (U_at (fun pc => false) 400 rfl)
/-! M.paste -/
set_option maxRecDepth 100000 in
theorem c_M_paste (σ : St) (a1 a2 a3 a4 a5 : Int32) : Cc 209 0 [vR 96 0, vI a1, vI a2, vI a3, vI a4, vI a5] σ = cI (Cc 205 0 [vI a1] (sI σ 96 0 0 0)) (fun x2 σ1 => if x2 = 0 then some (some (vI (-2)), σ1) else cI (Cc 205 0 [vI a3] σ1) (fun x4 σ3 => if x4 = 0 then some (some (vI (-2)), σ3) else ix a1 4 (fun k5 => if (gI σ3 2345 0 k5) = (-1 : Int32) then some (some (vI (-6)), σ3) else ix a3 4 (fun k6 => if (gI σ3 2345 0 k6) = (-1 : Int32) then some (some (vI (-6)), σ3) else ix a1 4 (fun k7 => ix a3 4 (fun k8 => if (gI σ3 2345 0 k7) = (gI σ3 2345 0 k8) then if a2 < 0 then some (some (vI (-7)), σ3) else if a4 < 0 then some (some (vI (-7)), σ3) else if a5 < 0 then some (some (vI (-7)), σ3) else ix a1 4 (fun k9 => if (lg_cmp ((Int32.toInt64 a2) + (Int32.toInt64 a5)) (Int32.toInt64 (gI σ3 2353 0 k9))) ≤ 0 then ix a3 4 (fun k10 => if (lg_cmp ((Int32.toInt64 a4) + (Int32.toInt64 a5)) (Int32.toInt64 (gI σ3 2353 0 k10))) ≤ 0 then Vv 209 0 118 [some (vR 96 0), some (vI a1), some (vI a2), some (vI a3), some (vI a4), some (vI a5), some (vI 0)] [] σ3 else some (some (vI (-7)), σ3)) else some (some (vI (-7)), σ3)) else some (some (vI (-8)), σ3))))))) :=
  (Cc_eq _ _ _ _).trans (U_at (fun pc => Nat.beq pc 118 || Nat.beq pc 155) 400 rfl)
set_option maxRecDepth 100000 in
theorem v_M_paste_118 (σ : St) (l1 l2 l3 l4 l5 l6 : Int32) : Vv 209 0 118 [some (vR 96 0), some (vI l1), some (vI l2), some (vI l3), some (vI l4), some (vI l5), some (vI l6)] [] σ = if l6 < l5 then ix ((((60 : Int32) * l1) + l2) + l6) 240 (fun k1 => ix l6 60 (fun k2 => Vv 209 0 118 [some (vR 96 0), some (vI l1), some (vI l2), some (vI l3), some (vI l4), some (vI l5), some (vI (l6 + 1))] [] (sL σ 31042 0 k2 (gL σ 123194 0 k1)))) else Vv 209 0 155 [some (vR 96 0), some (vI l1), some (vI l2), some (vI l3), some (vI l4), some (vI l5), some (vI 0)] [] σ :=
  U_at (fun pc => Nat.beq pc 118 || Nat.beq pc 155) 400 rfl
set_option maxRecDepth 100000 in
theorem v_M_paste_155 (σ : St) (l1 l2 l3 l4 l5 l6 : Int32) : Vv 209 0 155 [some (vR 96 0), some (vI l1), some (vI l2), some (vI l3), some (vI l4), some (vI l5), some (vI l6)] [] σ = if l6 < l5 then ix l6 60 (fun k1 => ix ((((60 : Int32) * l3) + l4) + l6) 240 (fun k2 => Vv 209 0 155 [some (vR 96 0), some (vI l1), some (vI l2), some (vI l3), some (vI l4), some (vI l5), some (vI (l6 + 1))] [] (sL σ 123194 0 k2 (gL σ 31042 0 k1)))) else some (some (vI 0), σ) :=
  U_at (fun pc => Nat.beq pc 118 || Nat.beq pc 155) 400 rfl
/-! M.feed -/
set_option maxRecDepth 100000 in
theorem c_M_feed (σ : St) (a1 a2 a3 a4 a5 : Int32) : Cc 210 0 [vR 96 0, vI a1, vI a2, vI a3, vI a4, vI a5] σ = if ((gI (sI σ 96 0 0 0) 96 0 6) + (20 : Int32)) ≤ (700 : Int32) then cV (Cc 211 0 [vR 96 0, vI a1] (sI σ 96 0 0 0)) (fun σ1 => cV (Cc 211 0 [vR 96 0, vI a2] σ1) (fun σ2 => cV (Cc 211 0 [vR 96 0, vI a3] σ2) (fun σ3 => cV (Cc 211 0 [vR 96 0, vI a4] σ3) (fun σ4 => cV (Cc 211 0 [vR 96 0, vI a5] σ4) (fun σ5 => some (some (vI (gI σ5 96 0 6)), σ5)))))) else some (some (vI (-1)), sI σ 96 0 0 0) :=
  (Cc_eq _ _ _ _).trans (U_at (fun pc => false) 400 rfl)
/-! M.four -/
set_option maxRecDepth 100000 in
theorem c_M_four (σ : St) (a1 : Int32) : Cc 211 0 [vR 96 0, vI a1] σ = Vv 211 0 3 [some (vR 96 0), some (vI a1), some (vI 24)] [] σ :=
  (Cc_eq _ _ _ _).trans (U_at (fun pc => Nat.beq pc 3) 400 rfl)
set_option maxRecDepth 100000 in
theorem v_M_four_3 (σ : St) (l1 l2 : Int32) : Vv 211 0 3 [some (vR 96 0), some (vI l1), some (vI l2)] [] σ = if l2 < 0 then some (none, σ) else ix (gI σ 96 0 6) 700 (fun k1 => Vv 211 0 3 [some (vR 96 0), some (vI l1), some (vI (l2 + (-8)))] [] (sI (sI σ 358731 0 k1 (Int32.toInt8 ((Int32.toInt8 (l1 >>> (l2 &&& 31))).toInt32)).toInt32) 96 0 6 ((gI (sI σ 358731 0 k1 (Int32.toInt8 ((Int32.toInt8 (l1 >>> (l2 &&& 31))).toInt32)).toInt32) 96 0 6) + (1 : Int32)))) :=
  U_at (fun pc => Nat.beq pc 3) 400 rfl
/-! M.end -/
set_option maxRecDepth 100000 in
theorem c_M_end (σ : St) (a1 : Int32) : Cc 212 0 [vR 96 0, vI a1] σ = cI (Cc 204 0 [vL (Int32.toInt64 a1), vL 0, vL (Int32.toInt64 (gI (sI σ 96 0 0 0) 96 0 6))] (sI σ 96 0 0 0)) (fun x2 σ1 => if x2 = 0 then some (some (vI (-1)), σ1) else some (some (vI a1), sI σ1 96 0 6 a1)) :=
  (Cc_eq _ _ _ _).trans (U_at (fun pc => false) 400 rfl)
/-! M.isByte -/
set_option maxRecDepth 100000 in
theorem c_M_isByte (σ : St) (a1 a2 a3 : Int32) : Cc 213 0 [vR 96 0, vI a1, vI a2, vI a3] σ = if a1 < (gI σ 96 0 6) then ix a1 700 (fun k1 => if (gI σ 358731 0 k1) < a2 then retZ 0 σ else ix a1 700 (fun k2 => if (gI σ 358731 0 k2) ≤ a3 then retZ 1 σ else retZ 0 σ)) else retZ 0 σ :=
  (Cc_eq _ _ _ _).trans (U_at (fun pc => false) 400 rfl)
/-! M.next -/
set_option maxRecDepth 100000 in
theorem c_M_next (σ : St) : Cc 214 0 [vR 96 0] σ = cI (Cc 213 0 [vR 96 0, vI (gI σ 96 0 7), vI 32, vI 32] σ) (fun x2 σ1 => if x2 = 0 then cI (Cc 213 0 [vR 96 0, vI (gI σ1 96 0 7), vI 10, vI 10] σ1) (fun x4 σ3 => if x4 = 0 then if (gI (sL (sI (sI σ3 96 0 9 (gI σ3 96 0 7)) 96 0 10 0) 96 0 11 0) 96 0 7) = (gI (sL (sI (sI σ3 96 0 9 (gI σ3 96 0 7)) 96 0 10 0) 96 0 11 0) 96 0 6) then some (none, sI (sL (sI (sI σ3 96 0 9 (gI σ3 96 0 7)) 96 0 10 0) 96 0 11 0) 96 0 8 0) else cI (Cc 213 0 [vR 96 0, vI (gI (sL (sI (sI σ3 96 0 9 (gI σ3 96 0 7)) 96 0 10 0) 96 0 11 0) 96 0 7), vI 97, vI 122] (sL (sI (sI σ3 96 0 9 (gI σ3 96 0 7)) 96 0 10 0) 96 0 11 0)) (fun x6 σ5 => if x6 = 0 then cI (Cc 213 0 [vR 96 0, vI (gI σ5 96 0 7), vI 48, vI 57] σ5) (fun x8 σ7 => if x8 = 0 then ix (gI σ7 96 0 7) 700 (fun k9 => if (gI σ7 358731 0 k9) = (59 : Int32) then some (none, sI (sI σ7 96 0 8 3) 96 0 7 ((gI (sI σ7 96 0 8 3) 96 0 7) + (1 : Int32))) else some (none, sI (sI σ7 96 0 8 4) 96 0 7 ((gI (sI σ7 96 0 8 4) 96 0 7) + (1 : Int32)))) else Vv 214 0 208 [some (vR 96 0), none] [] (sI σ7 96 0 8 2)) else Vv 214 0 102 [some (vR 96 0), some (vI 0)] [] (sI σ5 96 0 8 1)) else Vv 214 0 0 [some (vR 96 0), none] [] (sI σ3 96 0 7 ((gI σ3 96 0 7) + (1 : Int32)))) else Vv 214 0 0 [some (vR 96 0), none] [] (sI σ1 96 0 7 ((gI σ1 96 0 7) + (1 : Int32)))) :=
  (Cc_eq _ _ _ _).trans (U_at (fun pc => Nat.beq pc 0 || Nat.beq pc 102 || Nat.beq pc 208) 400 rfl)
set_option maxRecDepth 100000 in
theorem v_M_next_0 (σ : St) : Vv 214 0 0 [some (vR 96 0), none] [] σ = cI (Cc 213 0 [vR 96 0, vI (gI σ 96 0 7), vI 32, vI 32] σ) (fun x2 σ1 => if x2 = 0 then cI (Cc 213 0 [vR 96 0, vI (gI σ1 96 0 7), vI 10, vI 10] σ1) (fun x4 σ3 => if x4 = 0 then if (gI (sL (sI (sI σ3 96 0 9 (gI σ3 96 0 7)) 96 0 10 0) 96 0 11 0) 96 0 7) = (gI (sL (sI (sI σ3 96 0 9 (gI σ3 96 0 7)) 96 0 10 0) 96 0 11 0) 96 0 6) then some (none, sI (sL (sI (sI σ3 96 0 9 (gI σ3 96 0 7)) 96 0 10 0) 96 0 11 0) 96 0 8 0) else cI (Cc 213 0 [vR 96 0, vI (gI (sL (sI (sI σ3 96 0 9 (gI σ3 96 0 7)) 96 0 10 0) 96 0 11 0) 96 0 7), vI 97, vI 122] (sL (sI (sI σ3 96 0 9 (gI σ3 96 0 7)) 96 0 10 0) 96 0 11 0)) (fun x6 σ5 => if x6 = 0 then cI (Cc 213 0 [vR 96 0, vI (gI σ5 96 0 7), vI 48, vI 57] σ5) (fun x8 σ7 => if x8 = 0 then ix (gI σ7 96 0 7) 700 (fun k9 => if (gI σ7 358731 0 k9) = (59 : Int32) then some (none, sI (sI σ7 96 0 8 3) 96 0 7 ((gI (sI σ7 96 0 8 3) 96 0 7) + (1 : Int32))) else some (none, sI (sI σ7 96 0 8 4) 96 0 7 ((gI (sI σ7 96 0 8 4) 96 0 7) + (1 : Int32)))) else Vv 214 0 208 [some (vR 96 0), none] [] (sI σ7 96 0 8 2)) else Vv 214 0 102 [some (vR 96 0), some (vI 0)] [] (sI σ5 96 0 8 1)) else Vv 214 0 0 [some (vR 96 0), none] [] (sI σ3 96 0 7 ((gI σ3 96 0 7) + (1 : Int32)))) else Vv 214 0 0 [some (vR 96 0), none] [] (sI σ1 96 0 7 ((gI σ1 96 0 7) + (1 : Int32)))) :=
  U_at (fun pc => Nat.beq pc 0 || Nat.beq pc 102 || Nat.beq pc 208) 400 rfl
set_option maxRecDepth 100000 in
theorem v_M_next_102 (σ : St) (l1 : Int32) : Vv 214 0 102 [some (vR 96 0), some (vI l1)] [] σ = cI (Cc 213 0 [vR 96 0, vI (gI σ 96 0 7), vI 97, vI 122] σ) (fun x2 σ1 => if x2 = 0 then some (none, σ1) else if l1 ≤ (11 : Int32) then ix (gI σ1 96 0 7) 700 (fun k3 => if l1 ≤ (11 : Int32) then Vv 214 0 102 [some (vR 96 0), some (vI (l1 + 1))] [] (sI (sL σ1 96 0 11 ((((27 : Int64) * (gL σ1 96 0 11)) + (Int32.toInt64 (gI σ1 358731 0 k3))) - (96 : Int64))) 96 0 7 ((gI (sL σ1 96 0 11 ((((27 : Int64) * (gL σ1 96 0 11)) + (Int32.toInt64 (gI σ1 358731 0 k3))) - (96 : Int64))) 96 0 7) + (1 : Int32))) else Vv 214 0 102 [some (vR 96 0), some (vI (l1 + 1))] [] (sI (sL (sL σ1 96 0 11 ((((27 : Int64) * (gL σ1 96 0 11)) + (Int32.toInt64 (gI σ1 358731 0 k3))) - (96 : Int64))) 96 0 11 (-1)) 96 0 7 ((gI (sL (sL σ1 96 0 11 ((((27 : Int64) * (gL σ1 96 0 11)) + (Int32.toInt64 (gI σ1 358731 0 k3))) - (96 : Int64))) 96 0 11 (-1)) 96 0 7) + (1 : Int32)))) else if l1 ≤ (11 : Int32) then Vv 214 0 102 [some (vR 96 0), some (vI (l1 + 1))] [] (sI (sL σ1 96 0 11 (-1)) 96 0 7 ((gI (sL σ1 96 0 11 (-1)) 96 0 7) + (1 : Int32))) else Vv 214 0 102 [some (vR 96 0), some (vI (l1 + 1))] [] (sI (sL (sL σ1 96 0 11 (-1)) 96 0 11 (-1)) 96 0 7 ((gI (sL (sL σ1 96 0 11 (-1)) 96 0 11 (-1)) 96 0 7) + (1 : Int32)))) :=
  U_at (fun pc => Nat.beq pc 0 || Nat.beq pc 102 || Nat.beq pc 208) 400 rfl
set_option maxRecDepth 100000 in
theorem v_M_next_208 (σ : St) : Vv 214 0 208 [some (vR 96 0), none] [] σ = cI (Cc 213 0 [vR 96 0, vI (gI σ 96 0 7), vI 48, vI 57] σ) (fun x2 σ1 => if x2 = 0 then some (none, σ1) else if (gI σ1 96 0 10) ≤ (100000 : Int32) then ix (gI σ1 96 0 7) 700 (fun k3 => Vv 214 0 208 [some (vR 96 0), none] [] (sI (sI σ1 96 0 10 ((((10 : Int32) * (gI σ1 96 0 10)) + (gI σ1 358731 0 k3)) - (48 : Int32))) 96 0 7 ((gI (sI σ1 96 0 10 ((((10 : Int32) * (gI σ1 96 0 10)) + (gI σ1 358731 0 k3)) - (48 : Int32))) 96 0 7) + (1 : Int32)))) else Vv 214 0 208 [some (vR 96 0), none] [] (sI (sI σ1 96 0 10 1000000) 96 0 7 ((gI (sI σ1 96 0 10 1000000) 96 0 7) + (1 : Int32)))) :=
  U_at (fun pc => Nat.beq pc 0 || Nat.beq pc 102 || Nat.beq pc 208) 400 rfl
/-! M.isGood -/
set_option maxRecDepth 100000 in
theorem c_M_isGood (σ : St) : Cc 215 0 [vR 96 0] σ = if (gI σ 96 0 12) = 0 then retZ 1 σ else retZ 0 σ :=
  (Cc_eq _ _ _ _).trans (U_at (fun pc => false) 400 rfl)
/-! M.fails -/
set_option maxRecDepth 100000 in
theorem c_M_fails (σ : St) (a1 : Int32) : Cc 216 0 [vR 96 0, vI a1] σ = if (gI σ 96 0 12) = 0 then some (none, sI (sI σ 96 0 12 a1) 96 0 13 (gI (sI σ 96 0 12 a1) 96 0 9)) else some (none, σ) :=
  (Cc_eq _ _ _ _).trans (U_at (fun pc => false) 400 rfl)
/-! M.is -/
set_option maxRecDepth 100000 in
theorem c_M_is (σ : St) (a1 : Int64) : Cc 217 0 [vR 96 0, vL a1] σ = if (gI σ 96 0 12) = 0 then if (gI σ 96 0 8) = (1 : Int32) then if (lg_cmp (gL σ 96 0 11) a1) = 0 then retZ 1 σ else retZ 0 σ else retZ 0 σ else retZ 0 σ :=
  (Cc_eq _ _ _ _).trans (U_at (fun pc => false) 400 rfl)
/-! M.takes -/
set_option maxRecDepth 100000 in
theorem c_M_takes (σ : St) (a1 : Int64) : Cc 218 0 [vR 96 0, vL a1] σ = cI (Cc 217 0 [vR 96 0, vL a1] σ) (fun x2 σ1 => if x2 = 0 then retZ 0 σ1 else cV (Cc 214 0 [vR 96 0] σ1) (fun σ3 => retZ 1 σ3)) :=
  (Cc_eq _ _ _ _).trans (U_at (fun pc => false) 400 rfl)
/-! M.asks -/
set_option maxRecDepth 100000 in
theorem c_M_asks (σ : St) (a1 : Int64) : Cc 219 0 [vR 96 0, vL a1] σ = cI (Cc 218 0 [vR 96 0, vL a1] σ) (fun x2 σ1 => if x2 = 0 then cV (Cc 216 0 [vR 96 0, vI 1] σ1) (fun σ3 => some (none, σ3)) else some (none, σ1)) :=
  (Cc_eq _ _ _ _).trans (U_at (fun pc => false) 400 rfl)
/-! M.number -/
set_option maxRecDepth 100000 in
theorem c_M_number (σ : St) (a1 a2 : Int32) : Cc 220 0 [vR 96 0, vI a1, vI a2] σ = if (gI σ 96 0 12) = 0 then if (gI σ 96 0 8) = (2 : Int32) then cI (Cc 204 0 [vL (Int32.toInt64 (gI σ 96 0 10)), vL (Int32.toInt64 a1), vL (Int32.toInt64 a2)] σ) (fun x2 σ1 => if x2 = 0 then cV (Cc 216 0 [vR 96 0, vI 2] σ1) (fun σ3 => some (some (vI a1), σ3)) else cV (Cc 214 0 [vR 96 0] σ1) (fun σ4 => some (some (vI (gI σ1 96 0 10)), σ4))) else cV (Cc 216 0 [vR 96 0, vI 1] σ) (fun σ5 => some (some (vI a1), σ5)) else some (some (vI a1), σ) :=
  (Cc_eq _ _ _ _).trans (U_at (fun pc => false) 400 rfl)
/-! M.number2 -/
set_option maxRecDepth 100000 in
theorem c_M_number2 (σ : St) (a2 a3 : Int32) (a1 : Int64) : Cc 221 0 [vR 96 0, vL a1, vI a2, vI a3] σ = cV (Cc 219 0 [vR 96 0, vL a1] σ) (fun σ1 => cI (Cc 220 0 [vR 96 0, vI a2, vI a3] σ1) (fun x3 σ2 => some (some (vI x3), σ2))) :=
  (Cc_eq _ _ _ _).trans (U_at (fun pc => false) 400 rfl)
/-! M.ends -/
set_option maxRecDepth 100000 in
theorem c_M_ends (σ : St) : Cc 222 0 [vR 96 0] σ = if (gI σ 96 0 8) = (3 : Int32) then if (gI σ 96 0 12) = 0 then cV (Cc 214 0 [vR 96 0] σ) (fun σ1 => some (none, σ1)) else some (none, σ) else cV (Cc 216 0 [vR 96 0, vI 1] σ) (fun σ2 => if (gI σ2 96 0 12) = 0 then cV (Cc 214 0 [vR 96 0] σ2) (fun σ3 => some (none, σ3)) else some (none, σ2)) :=
  (Cc_eq _ _ _ _).trans (U_at (fun pc => false) 400 rfl)
/-! M.begins -/
set_option maxRecDepth 100000 in
theorem c_M_begins (σ : St) : Cc 223 0 [vR 96 0] σ = cV (Cc 214 0 [vR 96 0] (sI (sI (sI σ 96 0 12 0) 96 0 13 (-1)) 96 0 7 0)) (fun σ1 => some (none, σ1)) :=
  (Cc_eq _ _ _ _).trans (U_at (fun pc => false) 400 rfl)
/-! M.isOver -/
set_option maxRecDepth 100000 in
theorem c_M_isOver (σ : St) : Cc 224 0 [vR 96 0] σ = if (gI (sI (sI σ 96 0 6 0) 96 0 14 (gI (sI σ 96 0 6 0) 96 0 12)) 96 0 12) = 0 then some (none, sI (sI (sI σ 96 0 6 0) 96 0 14 (gI (sI σ 96 0 6 0) 96 0 12)) 96 0 15 (-1)) else some (none, sI (sI (sI σ 96 0 6 0) 96 0 14 (gI (sI σ 96 0 6 0) 96 0 12)) 96 0 15 (gI (sI (sI σ 96 0 6 0) 96 0 14 (gI (sI σ 96 0 6 0) 96 0 12)) 96 0 13)) :=
  (Cc_eq _ _ _ _).trans (U_at (fun pc => false) 400 rfl)
/-! M.fault -/
set_option maxRecDepth 100000 in
theorem c_M_fault (σ : St) (a1 : Int32) : Cc 225 0 [vR 96 0, vI a1] σ = if a1 = 0 then some (some (vI (gI (sI σ 96 0 0 0) 96 0 14)), sI σ 96 0 0 0) else if a1 = (1 : Int32) then some (some (vI (gI (sI σ 96 0 0 0) 96 0 15)), sI σ 96 0 0 0) else some (some (vI (-1)), sI σ 96 0 0 0) :=
  (Cc_eq _ _ _ _).trans (U_at (fun pc => false) 400 rfl)
/-! M.hasRead -/
set_option maxRecDepth 100000 in
theorem c_M_hasRead (σ : St) (a1 : Int32) : Cc 226 0 [vR 96 0, vI a1] σ = ix ((36 : Int32) + a1) 45 (fun k1 => some (some (vI (gI σ 23385 0 k1)), σ)) :=
  (Cc_eq _ _ _ _).trans (U_at (fun pc => false) 400 rfl)
/-! M.tells -/
set_option maxRecDepth 100000 in
theorem c_M_tells (σ : St) (a1 a2 : Int32) : Cc 227 0 [vR 96 0, vI a1, vI a2] σ = ix ((36 : Int32) + a1) 45 (fun k1 => some (none, sI σ 23385 0 k1 a2)) :=
  (Cc_eq _ _ _ _).trans (U_at (fun pc => false) 400 rfl)
/-! M.isTaken -/
set_option maxRecDepth 100000 in
theorem c_M_isTaken_0 (σ : St) (a2 a3 a4 a5 : Int32) : Cc 228 0 [vR 96 0, vR 31073 0, vI a2, vI a3, vI a4, vI a5] σ = Vv 228 0 3 [some (vR 96 0), some (vR 31073 0), some (vI a2), some (vI a3), some (vI a4), some (vI a5), some (vI 0)] [] σ :=
  (Cc_eq _ _ _ _).trans (U_at (fun pc => Nat.beq pc 3) 400 rfl)
set_option maxRecDepth 100000 in
theorem v_M_isTaken_3_0 (σ : St) (l2 l3 l4 l5 l6 : Int32) : Vv 228 0 3 [some (vR 96 0), some (vR 31073 0), some (vI l2), some (vI l3), some (vI l4), some (vI l5), some (vI l6)] [] σ = if l6 < l3 then ix ((2 : Int32) * (l2 + l6)) 60 (fun k1 => if (gI σ 31073 0 k1) = l4 then ix (((2 : Int32) * (l2 + l6)) + (1 : Int32)) 60 (fun k2 => if (gI σ 31073 0 k2) = l5 then retZ 1 σ else Vv 228 0 3 [some (vR 96 0), some (vR 31073 0), some (vI l2), some (vI l3), some (vI l4), some (vI l5), some (vI (l6 + 1))] [] σ) else Vv 228 0 3 [some (vR 96 0), some (vR 31073 0), some (vI l2), some (vI l3), some (vI l4), some (vI l5), some (vI (l6 + 1))] [] σ) else retZ 0 σ :=
  U_at (fun pc => Nat.beq pc 3) 400 rfl
set_option maxRecDepth 100000 in
theorem c_M_isTaken_1 (σ : St) (a2 a3 a4 a5 : Int32) : Cc 228 0 [vR 96 0, vR 36201 0, vI a2, vI a3, vI a4, vI a5] σ = Vv 228 0 3 [some (vR 96 0), some (vR 36201 0), some (vI a2), some (vI a3), some (vI a4), some (vI a5), some (vI 0)] [] σ :=
  (Cc_eq _ _ _ _).trans (U_at (fun pc => Nat.beq pc 3) 400 rfl)
set_option maxRecDepth 100000 in
theorem v_M_isTaken_3_1 (σ : St) (l2 l3 l4 l5 l6 : Int32) : Vv 228 0 3 [some (vR 96 0), some (vR 36201 0), some (vI l2), some (vI l3), some (vI l4), some (vI l5), some (vI l6)] [] σ = if l6 < l3 then ix ((2 : Int32) * (l2 + l6)) 70 (fun k1 => if (gI σ 36201 0 k1) = l4 then ix (((2 : Int32) * (l2 + l6)) + (1 : Int32)) 70 (fun k2 => if (gI σ 36201 0 k2) = l5 then retZ 1 σ else Vv 228 0 3 [some (vR 96 0), some (vR 36201 0), some (vI l2), some (vI l3), some (vI l4), some (vI l5), some (vI (l6 + 1))] [] σ) else Vv 228 0 3 [some (vR 96 0), some (vR 36201 0), some (vI l2), some (vI l3), some (vI l4), some (vI l5), some (vI (l6 + 1))] [] σ) else retZ 0 σ :=
  U_at (fun pc => Nat.beq pc 3) 400 rfl
set_option maxRecDepth 100000 in
theorem c_M_isTaken_2 (σ : St) (a2 a3 a4 a5 : Int32) : Cc 228 0 [vR 96 0, vR 31097 0, vI a2, vI a3, vI a4, vI a5] σ = Vv 228 0 3 [some (vR 96 0), some (vR 31097 0), some (vI a2), some (vI a3), some (vI a4), some (vI a5), some (vI 0)] [] σ :=
  (Cc_eq _ _ _ _).trans (U_at (fun pc => Nat.beq pc 3) 400 rfl)
set_option maxRecDepth 100000 in
theorem v_M_isTaken_3_2 (σ : St) (l2 l3 l4 l5 l6 : Int32) : Vv 228 0 3 [some (vR 96 0), some (vR 31097 0), some (vI l2), some (vI l3), some (vI l4), some (vI l5), some (vI l6)] [] σ = if l6 < l3 then ix ((2 : Int32) * (l2 + l6)) 60 (fun k1 => if (gI σ 31097 0 k1) = l4 then ix (((2 : Int32) * (l2 + l6)) + (1 : Int32)) 60 (fun k2 => if (gI σ 31097 0 k2) = l5 then retZ 1 σ else Vv 228 0 3 [some (vR 96 0), some (vR 31097 0), some (vI l2), some (vI l3), some (vI l4), some (vI l5), some (vI (l6 + 1))] [] σ) else Vv 228 0 3 [some (vR 96 0), some (vR 31097 0), some (vI l2), some (vI l3), some (vI l4), some (vI l5), some (vI (l6 + 1))] [] σ) else retZ 0 σ :=
  U_at (fun pc => Nat.beq pc 3) 400 rfl
/-! M.pointHere -/
set_option maxRecDepth 100000 in
theorem c_M_pointHere_0 (σ : St) (a2 : Int32) : Cc 229 0 [vR 96 0, vR 31073 0, vI a2] σ = cI (Cc 220 0 [vR 96 0, vI 0, vI 30] σ) (fun x2 σ1 => if (gI σ1 96 0 12) = 0 then if (gI σ1 96 0 8) = (2 : Int32) then cI (Cc 204 0 [vL (Int32.toInt64 (gI σ1 96 0 10)), vL 0, vL 30] σ1) (fun x4 σ3 => if x4 = 0 then Vv 229 0 45 [some (vR 96 0), some (vR 31073 0), some (vI a2), some (vI x2), some (vI 0)] [] σ3 else Vv 229 0 45 [some (vR 96 0), some (vR 31073 0), some (vI a2), some (vI x2), some (vI 1)] [] σ3) else Vv 229 0 45 [some (vR 96 0), some (vR 31073 0), some (vI a2), some (vI x2), some (vI 0)] [] σ1 else Vv 229 0 45 [some (vR 96 0), some (vR 31073 0), some (vI a2), some (vI x2), some (vI 0)] [] σ1) :=
  (Cc_eq _ _ _ _).trans (U_at (fun pc => Nat.beq pc 45 || Nat.beq pc 124) 400 rfl)
set_option maxRecDepth 100000 in
theorem v_M_pointHere_45_0 (σ : St) (l2 l3 l4 : Int32) : Vv 229 0 45 [some (vR 96 0), some (vR 31073 0), some (vI l2), some (vI l3), some (vI l4)] [] σ = if l4 = 0 then Vv 229 0 124 [some (vR 96 0), some (vR 31073 0), some (vI l2), some (vI l3), some (vI l4)] [] σ else cI (Cc 226 0 [vR 96 0, vI 3] σ) (fun x2 σ1 => cI (Cc 228 0 [vR 96 0, vR 31073 0, vI 24, vI x2, vI l3, vI (gI σ1 96 0 10)] σ1) (fun x4 σ3 => if x4 = 0 then cI (Cc 226 0 [vR 96 0, vI 4] σ3) (fun x6 σ5 => cI (Cc 228 0 [vR 96 0, vR 36201 0, vI 28, vI x6, vI l3, vI (gI σ5 96 0 10)] σ5) (fun x8 σ7 => if x8 = 0 then cI (Cc 226 0 [vR 96 0, vI 5] σ7) (fun x10 σ9 => cI (Cc 228 0 [vR 96 0, vR 31097 0, vI 24, vI x10, vI l3, vI (gI σ9 96 0 10)] σ9) (fun x12 σ11 => if x12 = 0 then Vv 229 0 124 [some (vR 96 0), some (vR 31073 0), some (vI l2), some (vI l3), some (vI l4)] [] σ11 else cV (Cc 216 0 [vR 96 0, vI 2] σ11) (fun σ13 => Vv 229 0 124 [some (vR 96 0), some (vR 31073 0), some (vI l2), some (vI l3), some (vI l4)] [] σ13))) else cV (Cc 216 0 [vR 96 0, vI 2] σ7) (fun σ14 => Vv 229 0 124 [some (vR 96 0), some (vR 31073 0), some (vI l2), some (vI l3), some (vI l4)] [] σ14))) else cV (Cc 216 0 [vR 96 0, vI 2] σ3) (fun σ15 => Vv 229 0 124 [some (vR 96 0), some (vR 31073 0), some (vI l2), some (vI l3), some (vI l4)] [] σ15))) :=
  U_at (fun pc => Nat.beq pc 45 || Nat.beq pc 124) 400 rfl
set_option maxRecDepth 100000 in
theorem v_M_pointHere_124_0 (σ : St) (l2 l3 l4 : Int32) : Vv 229 0 124 [some (vR 96 0), some (vR 31073 0), some (vI l2), some (vI l3), some (vI l4)] [] σ = ix ((2 : Int32) * l2) 60 (fun k1 => cI (Cc 220 0 [vR 96 0, vI 0, vI 30] (sI σ 31073 0 k1 l3)) (fun x3 σ2 => ix (((2 : Int32) * l2) + (1 : Int32)) 60 (fun k4 => some (none, sI σ2 31073 0 k4 x3)))) :=
  U_at (fun pc => Nat.beq pc 45 || Nat.beq pc 124) 400 rfl
set_option maxRecDepth 100000 in
theorem c_M_pointHere_1 (σ : St) (a2 : Int32) : Cc 229 0 [vR 96 0, vR 36201 0, vI a2] σ = cI (Cc 220 0 [vR 96 0, vI 0, vI 30] σ) (fun x2 σ1 => if (gI σ1 96 0 12) = 0 then if (gI σ1 96 0 8) = (2 : Int32) then cI (Cc 204 0 [vL (Int32.toInt64 (gI σ1 96 0 10)), vL 0, vL 30] σ1) (fun x4 σ3 => if x4 = 0 then Vv 229 0 45 [some (vR 96 0), some (vR 36201 0), some (vI a2), some (vI x2), some (vI 0)] [] σ3 else Vv 229 0 45 [some (vR 96 0), some (vR 36201 0), some (vI a2), some (vI x2), some (vI 1)] [] σ3) else Vv 229 0 45 [some (vR 96 0), some (vR 36201 0), some (vI a2), some (vI x2), some (vI 0)] [] σ1 else Vv 229 0 45 [some (vR 96 0), some (vR 36201 0), some (vI a2), some (vI x2), some (vI 0)] [] σ1) :=
  (Cc_eq _ _ _ _).trans (U_at (fun pc => Nat.beq pc 45 || Nat.beq pc 124) 400 rfl)
set_option maxRecDepth 100000 in
theorem v_M_pointHere_45_1 (σ : St) (l2 l3 l4 : Int32) : Vv 229 0 45 [some (vR 96 0), some (vR 36201 0), some (vI l2), some (vI l3), some (vI l4)] [] σ = if l4 = 0 then Vv 229 0 124 [some (vR 96 0), some (vR 36201 0), some (vI l2), some (vI l3), some (vI l4)] [] σ else cI (Cc 226 0 [vR 96 0, vI 3] σ) (fun x2 σ1 => cI (Cc 228 0 [vR 96 0, vR 31073 0, vI 24, vI x2, vI l3, vI (gI σ1 96 0 10)] σ1) (fun x4 σ3 => if x4 = 0 then cI (Cc 226 0 [vR 96 0, vI 4] σ3) (fun x6 σ5 => cI (Cc 228 0 [vR 96 0, vR 36201 0, vI 28, vI x6, vI l3, vI (gI σ5 96 0 10)] σ5) (fun x8 σ7 => if x8 = 0 then cI (Cc 226 0 [vR 96 0, vI 5] σ7) (fun x10 σ9 => cI (Cc 228 0 [vR 96 0, vR 31097 0, vI 24, vI x10, vI l3, vI (gI σ9 96 0 10)] σ9) (fun x12 σ11 => if x12 = 0 then Vv 229 0 124 [some (vR 96 0), some (vR 36201 0), some (vI l2), some (vI l3), some (vI l4)] [] σ11 else cV (Cc 216 0 [vR 96 0, vI 2] σ11) (fun σ13 => Vv 229 0 124 [some (vR 96 0), some (vR 36201 0), some (vI l2), some (vI l3), some (vI l4)] [] σ13))) else cV (Cc 216 0 [vR 96 0, vI 2] σ7) (fun σ14 => Vv 229 0 124 [some (vR 96 0), some (vR 36201 0), some (vI l2), some (vI l3), some (vI l4)] [] σ14))) else cV (Cc 216 0 [vR 96 0, vI 2] σ3) (fun σ15 => Vv 229 0 124 [some (vR 96 0), some (vR 36201 0), some (vI l2), some (vI l3), some (vI l4)] [] σ15))) :=
  U_at (fun pc => Nat.beq pc 45 || Nat.beq pc 124) 400 rfl
set_option maxRecDepth 100000 in
theorem v_M_pointHere_124_1 (σ : St) (l2 l3 l4 : Int32) : Vv 229 0 124 [some (vR 96 0), some (vR 36201 0), some (vI l2), some (vI l3), some (vI l4)] [] σ = ix ((2 : Int32) * l2) 70 (fun k1 => cI (Cc 220 0 [vR 96 0, vI 0, vI 30] (sI σ 36201 0 k1 l3)) (fun x3 σ2 => ix (((2 : Int32) * l2) + (1 : Int32)) 70 (fun k4 => some (none, sI σ2 36201 0 k4 x3)))) :=
  U_at (fun pc => Nat.beq pc 45 || Nat.beq pc 124) 400 rfl
set_option maxRecDepth 100000 in
theorem c_M_pointHere_2 (σ : St) (a2 : Int32) : Cc 229 0 [vR 96 0, vR 31097 0, vI a2] σ = cI (Cc 220 0 [vR 96 0, vI 0, vI 30] σ) (fun x2 σ1 => if (gI σ1 96 0 12) = 0 then if (gI σ1 96 0 8) = (2 : Int32) then cI (Cc 204 0 [vL (Int32.toInt64 (gI σ1 96 0 10)), vL 0, vL 30] σ1) (fun x4 σ3 => if x4 = 0 then Vv 229 0 45 [some (vR 96 0), some (vR 31097 0), some (vI a2), some (vI x2), some (vI 0)] [] σ3 else Vv 229 0 45 [some (vR 96 0), some (vR 31097 0), some (vI a2), some (vI x2), some (vI 1)] [] σ3) else Vv 229 0 45 [some (vR 96 0), some (vR 31097 0), some (vI a2), some (vI x2), some (vI 0)] [] σ1 else Vv 229 0 45 [some (vR 96 0), some (vR 31097 0), some (vI a2), some (vI x2), some (vI 0)] [] σ1) :=
  (Cc_eq _ _ _ _).trans (U_at (fun pc => Nat.beq pc 45 || Nat.beq pc 124) 400 rfl)
set_option maxRecDepth 100000 in
theorem v_M_pointHere_45_2 (σ : St) (l2 l3 l4 : Int32) : Vv 229 0 45 [some (vR 96 0), some (vR 31097 0), some (vI l2), some (vI l3), some (vI l4)] [] σ = if l4 = 0 then Vv 229 0 124 [some (vR 96 0), some (vR 31097 0), some (vI l2), some (vI l3), some (vI l4)] [] σ else cI (Cc 226 0 [vR 96 0, vI 3] σ) (fun x2 σ1 => cI (Cc 228 0 [vR 96 0, vR 31073 0, vI 24, vI x2, vI l3, vI (gI σ1 96 0 10)] σ1) (fun x4 σ3 => if x4 = 0 then cI (Cc 226 0 [vR 96 0, vI 4] σ3) (fun x6 σ5 => cI (Cc 228 0 [vR 96 0, vR 36201 0, vI 28, vI x6, vI l3, vI (gI σ5 96 0 10)] σ5) (fun x8 σ7 => if x8 = 0 then cI (Cc 226 0 [vR 96 0, vI 5] σ7) (fun x10 σ9 => cI (Cc 228 0 [vR 96 0, vR 31097 0, vI 24, vI x10, vI l3, vI (gI σ9 96 0 10)] σ9) (fun x12 σ11 => if x12 = 0 then Vv 229 0 124 [some (vR 96 0), some (vR 31097 0), some (vI l2), some (vI l3), some (vI l4)] [] σ11 else cV (Cc 216 0 [vR 96 0, vI 2] σ11) (fun σ13 => Vv 229 0 124 [some (vR 96 0), some (vR 31097 0), some (vI l2), some (vI l3), some (vI l4)] [] σ13))) else cV (Cc 216 0 [vR 96 0, vI 2] σ7) (fun σ14 => Vv 229 0 124 [some (vR 96 0), some (vR 31097 0), some (vI l2), some (vI l3), some (vI l4)] [] σ14))) else cV (Cc 216 0 [vR 96 0, vI 2] σ3) (fun σ15 => Vv 229 0 124 [some (vR 96 0), some (vR 31097 0), some (vI l2), some (vI l3), some (vI l4)] [] σ15))) :=
  U_at (fun pc => Nat.beq pc 45 || Nat.beq pc 124) 400 rfl
set_option maxRecDepth 100000 in
theorem v_M_pointHere_124_2 (σ : St) (l2 l3 l4 : Int32) : Vv 229 0 124 [some (vR 96 0), some (vR 31097 0), some (vI l2), some (vI l3), some (vI l4)] [] σ = ix ((2 : Int32) * l2) 60 (fun k1 => cI (Cc 220 0 [vR 96 0, vI 0, vI 30] (sI σ 31097 0 k1 l3)) (fun x3 σ2 => ix (((2 : Int32) * l2) + (1 : Int32)) 60 (fun k4 => some (none, sI σ2 31097 0 k4 x3)))) :=
  U_at (fun pc => Nat.beq pc 45 || Nat.beq pc 124) 400 rfl
/-! M.placeHere -/
set_option maxRecDepth 100000 in
theorem c_M_placeHere (σ : St) : Cc 230 0 [vR 96 0] σ = cI (Cc 226 0 [vR 96 0, vI 3] σ) (fun x2 σ1 => cI (Cc 220 0 [vR 96 0, vI 0, vI (x2 - (1 : Int32))] σ1) (fun x4 σ3 => some (some (vI x4), σ3))) :=
  (Cc_eq _ _ _ _).trans (U_at (fun pc => false) 400 rfl)
/-! M.wayLine -/
set_option maxRecDepth 100000 in
theorem c_M_wayLine (σ : St) : Cc 231 0 [vR 96 0] σ = cI (Cc 226 0 [vR 96 0, vI 6] σ) (fun x2 σ1 => cI (Cc 230 0 [vR 96 0] σ1) (fun x4 σ3 => ix ((2 : Int32) * ((40 : Int32) + x2)) 100 (fun k5 => if (gI (sI σ3 51585 0 k5 x4) 96 0 12) = 0 then if (gI (sI σ3 51585 0 k5 x4) 96 0 8) = (2 : Int32) then ix ((2 : Int32) * ((40 : Int32) + x2)) 100 (fun k6 => if (gI (sI σ3 51585 0 k5 x4) 96 0 10) = (gI (sI σ3 51585 0 k5 x4) 51585 0 k6) then cV (Cc 216 0 [vR 96 0, vI 2] (sI σ3 51585 0 k5 x4)) (fun σ7 => cI (Cc 230 0 [vR 96 0] σ7) (fun x9 σ8 => ix (((2 : Int32) * ((40 : Int32) + x2)) + (1 : Int32)) 100 (fun k10 => cI (Cc 226 0 [vR 96 0, vI 6] (sI σ8 51585 0 k10 x9)) (fun x12 σ11 => cV (Cc 227 0 [vR 96 0, vI 6, vI (x12 + (1 : Int32))] σ11) (fun σ13 => some (none, σ13)))))) else cI (Cc 230 0 [vR 96 0] (sI σ3 51585 0 k5 x4)) (fun x15 σ14 => ix (((2 : Int32) * ((40 : Int32) + x2)) + (1 : Int32)) 100 (fun k16 => cI (Cc 226 0 [vR 96 0, vI 6] (sI σ14 51585 0 k16 x15)) (fun x18 σ17 => cV (Cc 227 0 [vR 96 0, vI 6, vI (x18 + (1 : Int32))] σ17) (fun σ19 => some (none, σ19)))))) else cI (Cc 230 0 [vR 96 0] (sI σ3 51585 0 k5 x4)) (fun x21 σ20 => ix (((2 : Int32) * ((40 : Int32) + x2)) + (1 : Int32)) 100 (fun k22 => cI (Cc 226 0 [vR 96 0, vI 6] (sI σ20 51585 0 k22 x21)) (fun x24 σ23 => cV (Cc 227 0 [vR 96 0, vI 6, vI (x24 + (1 : Int32))] σ23) (fun σ25 => some (none, σ25))))) else cI (Cc 230 0 [vR 96 0] (sI σ3 51585 0 k5 x4)) (fun x27 σ26 => ix (((2 : Int32) * ((40 : Int32) + x2)) + (1 : Int32)) 100 (fun k28 => cI (Cc 226 0 [vR 96 0, vI 6] (sI σ26 51585 0 k28 x27)) (fun x30 σ29 => cV (Cc 227 0 [vR 96 0, vI 6, vI (x30 + (1 : Int32))] σ29) (fun σ31 => some (none, σ31)))))))) :=
  (Cc_eq _ _ _ _).trans (U_at (fun pc => false) 400 rfl)
/-! M.lookerLine -/
set_option maxRecDepth 100000 in
theorem c_M_lookerLine (σ : St) : Cc 232 0 [vR 96 0] σ = cI (Cc 226 0 [vR 96 0, vI 7] σ) (fun x2 σ1 => cV (Cc 219 0 [vR 96 0, vL 47] σ1) (fun σ3 => Vv 232 0 21 [some (vR 96 0), some (vI ((2 : Int32) * ((24 : Int32) + x2))), some (vI 0)] [] σ3)) :=
  (Cc_eq _ _ _ _).trans (U_at (fun pc => Nat.beq pc 21) 400 rfl)
set_option maxRecDepth 100000 in
theorem v_M_lookerLine_21 (σ : St) (l1 l2 : Int32) : Vv 232 0 21 [some (vR 96 0), some (vI l1), some (vI l2)] [] σ = cI (Cc 226 0 [vR 96 0, vI 7] σ) (fun x2 σ1 => if l2 < x2 then if (gI σ1 96 0 12) = 0 then if (gI σ1 96 0 8) = (2 : Int32) then ix ((2 : Int32) * ((24 : Int32) + l2)) 60 (fun k3 => if (gI σ1 96 0 10) = (gI σ1 31113 0 k3) then cV (Cc 216 0 [vR 96 0, vI 2] σ1) (fun σ4 => Vv 232 0 21 [some (vR 96 0), some (vI l1), some (vI (l2 + 1))] [] σ4) else Vv 232 0 21 [some (vR 96 0), some (vI l1), some (vI (l2 + 1))] [] σ1) else Vv 232 0 21 [some (vR 96 0), some (vI l1), some (vI (l2 + 1))] [] σ1 else Vv 232 0 21 [some (vR 96 0), some (vI l1), some (vI (l2 + 1))] [] σ1 else cI (Cc 230 0 [vR 96 0] σ1) (fun x6 σ5 => ix l1 60 (fun k7 => cI (Cc 226 0 [vR 96 0, vI 4] (sI σ5 31113 0 k7 x6)) (fun x9 σ8 => cI (Cc 221 0 [vR 96 0, vL 4558591, vI 0, vI (x9 - (1 : Int32))] σ8) (fun x11 σ10 => ix (l1 + (1 : Int32)) 60 (fun k12 => cI (Cc 226 0 [vR 96 0, vI 7] (sI σ10 31113 0 k12 x11)) (fun x14 σ13 => cV (Cc 227 0 [vR 96 0, vI 7, vI (x14 + (1 : Int32))] σ13) (fun σ15 => some (none, σ15))))))))) :=
  U_at (fun pc => Nat.beq pc 21) 400 rfl
/-! M.isRoom -/
set_option maxRecDepth 100000 in
theorem c_M_isRoom (σ : St) (a1 a2 a3 : Int32) : Cc 233 0 [vR 96 0, vI a1, vI a2, vI a3] σ = if a1 = 0 then if a1 = 0 then if a1 = 0 then retZ 0 σ else if (gI σ 96 0 12) = 0 then retZ 1 σ else retZ 0 σ else if (gI σ 96 0 12) = 0 then cV (Cc 214 0 [vR 96 0] σ) (fun σ1 => if a1 = 0 then retZ 0 σ1 else if (gI σ1 96 0 12) = 0 then retZ 1 σ1 else retZ 0 σ1) else if a1 = 0 then retZ 0 σ else if (gI σ 96 0 12) = 0 then retZ 1 σ else retZ 0 σ else cI (Cc 226 0 [vR 96 0, vI a2] σ) (fun x3 σ2 => if x3 = a3 then cV (Cc 216 0 [vR 96 0, vI 3] σ2) (fun σ4 => if a1 = 0 then if a1 = 0 then retZ 0 σ4 else if (gI σ4 96 0 12) = 0 then retZ 1 σ4 else retZ 0 σ4 else if (gI σ4 96 0 12) = 0 then cV (Cc 214 0 [vR 96 0] σ4) (fun σ5 => if a1 = 0 then retZ 0 σ5 else if (gI σ5 96 0 12) = 0 then retZ 1 σ5 else retZ 0 σ5) else if a1 = 0 then retZ 0 σ4 else if (gI σ4 96 0 12) = 0 then retZ 1 σ4 else retZ 0 σ4) else if a1 = 0 then if a1 = 0 then retZ 0 σ2 else if (gI σ2 96 0 12) = 0 then retZ 1 σ2 else retZ 0 σ2 else if (gI σ2 96 0 12) = 0 then cV (Cc 214 0 [vR 96 0] σ2) (fun σ6 => if a1 = 0 then retZ 0 σ6 else if (gI σ6 96 0 12) = 0 then retZ 1 σ6 else retZ 0 σ6) else if a1 = 0 then retZ 0 σ2 else if (gI σ2 96 0 12) = 0 then retZ 1 σ2 else retZ 0 σ2) :=
  (Cc_eq _ _ _ _).trans (U_at (fun pc => false) 400 rfl)
/-! M.lineHere -/
set_option maxRecDepth 100000 in
theorem c_M_lineHere (σ : St) : Cc 234 0 [vR 96 0] σ = cI (Cc 217 0 [vR 96 0, vL 8740067] σ) (fun x2 σ1 => cI (Cc 233 0 [vR 96 0, vI x2, vI 3, vI 6] σ1) (fun x4 σ3 => if x4 = 0 then Vv 234 0 48 [some (vR 96 0), none] [] σ3 else cI (Cc 226 0 [vR 96 0, vI 3] σ3) (fun x6 σ5 => cV (Cc 229 0 [vR 96 0, vR 31073 0, vI ((24 : Int32) + x6)] σ5) (fun σ7 => cI (Cc 226 0 [vR 96 0, vI 3] σ7) (fun x9 σ8 => cV (Cc 227 0 [vR 96 0, vI 3, vI (x9 + (1 : Int32))] σ8) (fun σ10 => some (none, σ10))))))) :=
  (Cc_eq _ _ _ _).trans (U_at (fun pc => Nat.beq pc 48 || Nat.beq pc 121 || Nat.beq pc 176 || Nat.beq pc 208 || Nat.beq pc 240) 400 rfl)
set_option maxRecDepth 100000 in
theorem v_M_lineHere_48 (σ : St) : Vv 234 0 48 [some (vR 96 0), none] [] σ = if (gI σ 96 0 12) = 0 then cI (Cc 217 0 [vR 96 0, vL 257105] σ) (fun x2 σ1 => cI (Cc 233 0 [vR 96 0, vI x2, vI 4, vI 7] σ1) (fun x4 σ3 => if x4 = 0 then Vv 234 0 121 [some (vR 96 0), none] [] σ3 else cI (Cc 226 0 [vR 96 0, vI 4] σ3) (fun x6 σ5 => cV (Cc 229 0 [vR 96 0, vR 36201 0, vI ((28 : Int32) + x6)] σ5) (fun σ7 => cI (Cc 221 0 [vR 96 0, vL 12532058, vI 0, vI 99] σ7) (fun x9 σ8 => ix ((28 : Int32) + x6) 35 (fun k10 => cI (Cc 226 0 [vR 96 0, vI 4] (sI σ8 18289 0 k10 x9)) (fun x12 σ11 => cV (Cc 227 0 [vR 96 0, vI 4, vI (x12 + (1 : Int32))] σ11) (fun σ13 => some (none, σ13))))))))) else Vv 234 0 121 [some (vR 96 0), none] [] σ :=
  U_at (fun pc => Nat.beq pc 48 || Nat.beq pc 121 || Nat.beq pc 176 || Nat.beq pc 208 || Nat.beq pc 240) 400 rfl
set_option maxRecDepth 100000 in
theorem v_M_lineHere_121 (σ : St) : Vv 234 0 121 [some (vR 96 0), none] [] σ = if (gI σ 96 0 12) = 0 then cI (Cc 217 0 [vR 96 0, vL 127418] σ) (fun x2 σ1 => cI (Cc 233 0 [vR 96 0, vI x2, vI 5, vI 6] σ1) (fun x4 σ3 => if x4 = 0 then Vv 234 0 176 [some (vR 96 0), none] [] σ3 else cI (Cc 226 0 [vR 96 0, vI 5] σ3) (fun x6 σ5 => cV (Cc 229 0 [vR 96 0, vR 31097 0, vI ((24 : Int32) + x6)] σ5) (fun σ7 => cI (Cc 226 0 [vR 96 0, vI 5] σ7) (fun x9 σ8 => cV (Cc 227 0 [vR 96 0, vI 5, vI (x9 + (1 : Int32))] σ8) (fun σ10 => some (none, σ10))))))) else Vv 234 0 176 [some (vR 96 0), none] [] σ :=
  U_at (fun pc => Nat.beq pc 48 || Nat.beq pc 121 || Nat.beq pc 176 || Nat.beq pc 208 || Nat.beq pc 240) 400 rfl
set_option maxRecDepth 100000 in
theorem v_M_lineHere_176 (σ : St) : Vv 234 0 176 [some (vR 96 0), none] [] σ = if (gI σ 96 0 12) = 0 then cI (Cc 217 0 [vR 96 0, vL 16819] σ) (fun x2 σ1 => cI (Cc 233 0 [vR 96 0, vI x2, vI 6, vI 10] σ1) (fun x4 σ3 => if x4 = 0 then Vv 234 0 208 [some (vR 96 0), none] [] σ3 else cV (Cc 231 0 [vR 96 0] σ3) (fun σ5 => some (none, σ5)))) else Vv 234 0 208 [some (vR 96 0), none] [] σ :=
  U_at (fun pc => Nat.beq pc 48 || Nat.beq pc 121 || Nat.beq pc 176 || Nat.beq pc 208 || Nat.beq pc 240) 400 rfl
set_option maxRecDepth 100000 in
theorem v_M_lineHere_208 (σ : St) : Vv 234 0 208 [some (vR 96 0), none] [] σ = if (gI σ 96 0 12) = 0 then cI (Cc 217 0 [vR 96 0, vL 180461916] σ) (fun x2 σ1 => cI (Cc 233 0 [vR 96 0, vI x2, vI 7, vI 6] σ1) (fun x4 σ3 => if x4 = 0 then Vv 234 0 240 [some (vR 96 0), none] [] σ3 else cV (Cc 232 0 [vR 96 0] σ3) (fun σ5 => some (none, σ5)))) else Vv 234 0 240 [some (vR 96 0), none] [] σ :=
  U_at (fun pc => Nat.beq pc 48 || Nat.beq pc 121 || Nat.beq pc 176 || Nat.beq pc 208 || Nat.beq pc 240) 400 rfl
set_option maxRecDepth 100000 in
theorem v_M_lineHere_240 (σ : St) : Vv 234 0 240 [some (vR 96 0), none] [] σ = if (gI σ 96 0 12) = 0 then cV (Cc 216 0 [vR 96 0, vI 1] σ) (fun σ1 => some (none, σ1)) else some (none, σ) :=
  U_at (fun pc => Nat.beq pc 48 || Nat.beq pc 121 || Nat.beq pc 176 || Nat.beq pc 208 || Nat.beq pc 240) 400 rfl
/-! M.clears -/
set_option maxRecDepth 100000 in
theorem c_M_clears (σ : St) : Cc 235 0 [vR 96 0] σ = ix 4 5 (fun k1 => Vv 235 0 9 [some (vR 96 0), some (vI 0)] [] (sI σ 2897 0 k1 0)) :=
  (Cc_eq _ _ _ _).trans (U_at (fun pc => Nat.beq pc 9) 400 rfl)
set_option maxRecDepth 100000 in
theorem v_M_clears_9 (σ : St) (l1 : Int32) : Vv 235 0 9 [some (vR 96 0), some (vI l1)] [] σ = if l1 < (9 : Int32) then cV (Cc 227 0 [vR 96 0, vI l1, vI 0] σ) (fun σ1 => Vv 235 0 9 [some (vR 96 0), some (vI (l1 + 1))] [] σ1) else some (none, σ) :=
  U_at (fun pc => Nat.beq pc 9) 400 rfl
/-! M.roof -/
set_option maxRecDepth 100000 in
theorem c_M_roof (σ : St) : Cc 236 0 [vR 96 0] σ = cV (Cc 235 0 [vR 96 0] (sI σ 96 0 0 0)) (fun σ1 => cV (Cc 223 0 [vR 96 0] σ1) (fun σ2 => Vv 236 0 13 [some (vR 96 0)] [] σ2)) :=
  (Cc_eq _ _ _ _).trans (U_at (fun pc => Nat.beq pc 13) 400 rfl)
set_option maxRecDepth 100000 in
theorem v_M_roof_13 (σ : St) : Vv 236 0 13 [some (vR 96 0)] [] σ = cI (Cc 215 0 [vR 96 0] σ) (fun x2 σ1 => if x2 = 0 then cV (Cc 224 0 [vR 96 0] σ1) (fun σ3 => if (gI σ3 96 0 12) = 0 then cV (Cc 238 0 [vR 96 0, vI 4, vI 0] σ3) (fun σ4 => ix 0 5 (fun k5 => some (some (vI (gI σ4 2897 0 k5)), σ4))) else some (some (vI (-4)), σ3)) else if (gI σ1 96 0 8) = 0 then cV (Cc 224 0 [vR 96 0] σ1) (fun σ6 => if (gI σ6 96 0 12) = 0 then cV (Cc 238 0 [vR 96 0, vI 4, vI 0] σ6) (fun σ7 => ix 0 5 (fun k8 => some (some (vI (gI σ7 2897 0 k8)), σ7))) else some (some (vI (-4)), σ6)) else ix 4 5 (fun k9 => if (gI σ1 2897 0 k9) = 0 then cV (Cc 219 0 [vR 96 0, vL 365640] σ1) (fun σ10 => cI (Cc 221 0 [vR 96 0, vL 13385674, vI 1, vI 12] σ10) (fun x12 σ11 => cV (Cc 227 0 [vR 96 0, vI 0, vI x12] σ11) (fun σ13 => cI (Cc 221 0 [vR 96 0, vL 8798, vI 0, vI 3] σ13) (fun x15 σ14 => cV (Cc 227 0 [vR 96 0, vI 1, vI x15] σ14) (fun σ16 => cI (Cc 221 0 [vR 96 0, vL 298288, vI 0, vI 10] σ16) (fun x18 σ17 => cV (Cc 227 0 [vR 96 0, vI 2, vI x18] σ17) (fun σ19 => cI (Cc 215 0 [vR 96 0] σ19) (fun x21 σ20 => if x21 = 0 then ix 4 5 (fun k22 => ix 4 5 (fun k23 => Vv 236 0 13 [some (vR 96 0)] [] (sI σ20 2897 0 k23 ((gI σ20 2897 0 k22) + (1 : Int32))))) else cV (Cc 222 0 [vR 96 0] σ20) (fun σ24 => ix 4 5 (fun k25 => ix 4 5 (fun k26 => Vv 236 0 13 [some (vR 96 0)] [] (sI σ24 2897 0 k26 ((gI σ24 2897 0 k25) + (1 : Int32)))))))))))))) else cV (Cc 234 0 [vR 96 0] σ1) (fun σ27 => cI (Cc 215 0 [vR 96 0] σ27) (fun x29 σ28 => if x29 = 0 then ix 4 5 (fun k30 => ix 4 5 (fun k31 => Vv 236 0 13 [some (vR 96 0)] [] (sI σ28 2897 0 k31 ((gI σ28 2897 0 k30) + (1 : Int32))))) else cV (Cc 222 0 [vR 96 0] σ28) (fun σ32 => ix 4 5 (fun k33 => ix 4 5 (fun k34 => Vv 236 0 13 [some (vR 96 0)] [] (sI σ32 2897 0 k34 ((gI σ32 2897 0 k33) + (1 : Int32)))))))))) :=
  U_at (fun pc => Nat.beq pc 13) 400 rfl
/-! M.copyRow -/
set_option maxRecDepth 100000 in
theorem c_M_copyRow_0 (σ : St) (a2 a3 a4 : Int32) : Cc 237 0 [vR 2897 0, vI a2, vI a3, vI a4] σ = Vv 237 0 3 [some (vR 2897 0), some (vI a2), some (vI a3), some (vI a4), some (vI 0)] [] σ :=
  (Cc_eq _ _ _ _).trans (U_at (fun pc => Nat.beq pc 3) 400 rfl)
set_option maxRecDepth 100000 in
theorem v_M_copyRow_3_0 (σ : St) (l1 l2 l3 l4 : Int32) : Vv 237 0 3 [some (vR 2897 0), some (vI l1), some (vI l2), some (vI l3), some (vI l4)] [] σ = if l4 < l1 then ix ((l1 * l2) + l4) 5 (fun k1 => ix ((l1 * l3) + l4) 5 (fun k2 => Vv 237 0 3 [some (vR 2897 0), some (vI l1), some (vI l2), some (vI l3), some (vI (l4 + 1))] [] (sI σ 2897 0 k2 (gI σ 2897 0 k1)))) else some (none, σ) :=
  U_at (fun pc => Nat.beq pc 3) 400 rfl
set_option maxRecDepth 100000 in
theorem c_M_copyRow_1 (σ : St) (a2 a3 a4 : Int32) : Cc 237 0 [vR 23385 0, vI a2, vI a3, vI a4] σ = Vv 237 0 3 [some (vR 23385 0), some (vI a2), some (vI a3), some (vI a4), some (vI 0)] [] σ :=
  (Cc_eq _ _ _ _).trans (U_at (fun pc => Nat.beq pc 3) 400 rfl)
set_option maxRecDepth 100000 in
theorem v_M_copyRow_3_1 (σ : St) (l1 l2 l3 l4 : Int32) : Vv 237 0 3 [some (vR 23385 0), some (vI l1), some (vI l2), some (vI l3), some (vI l4)] [] σ = if l4 < l1 then ix ((l1 * l2) + l4) 45 (fun k1 => ix ((l1 * l3) + l4) 45 (fun k2 => Vv 237 0 3 [some (vR 23385 0), some (vI l1), some (vI l2), some (vI l3), some (vI (l4 + 1))] [] (sI σ 23385 0 k2 (gI σ 23385 0 k1)))) else some (none, σ) :=
  U_at (fun pc => Nat.beq pc 3) 400 rfl
set_option maxRecDepth 100000 in
theorem c_M_copyRow_2 (σ : St) (a2 a3 a4 : Int32) : Cc 237 0 [vR 31073 0, vI a2, vI a3, vI a4] σ = Vv 237 0 3 [some (vR 31073 0), some (vI a2), some (vI a3), some (vI a4), some (vI 0)] [] σ :=
  (Cc_eq _ _ _ _).trans (U_at (fun pc => Nat.beq pc 3) 400 rfl)
set_option maxRecDepth 100000 in
theorem v_M_copyRow_3_2 (σ : St) (l1 l2 l3 l4 : Int32) : Vv 237 0 3 [some (vR 31073 0), some (vI l1), some (vI l2), some (vI l3), some (vI l4)] [] σ = if l4 < l1 then ix ((l1 * l2) + l4) 60 (fun k1 => ix ((l1 * l3) + l4) 60 (fun k2 => Vv 237 0 3 [some (vR 31073 0), some (vI l1), some (vI l2), some (vI l3), some (vI (l4 + 1))] [] (sI σ 31073 0 k2 (gI σ 31073 0 k1)))) else some (none, σ) :=
  U_at (fun pc => Nat.beq pc 3) 400 rfl
set_option maxRecDepth 100000 in
theorem c_M_copyRow_3 (σ : St) (a2 a3 a4 : Int32) : Cc 237 0 [vR 36201 0, vI a2, vI a3, vI a4] σ = Vv 237 0 3 [some (vR 36201 0), some (vI a2), some (vI a3), some (vI a4), some (vI 0)] [] σ :=
  (Cc_eq _ _ _ _).trans (U_at (fun pc => Nat.beq pc 3) 400 rfl)
set_option maxRecDepth 100000 in
theorem v_M_copyRow_3_3 (σ : St) (l1 l2 l3 l4 : Int32) : Vv 237 0 3 [some (vR 36201 0), some (vI l1), some (vI l2), some (vI l3), some (vI l4)] [] σ = if l4 < l1 then ix ((l1 * l2) + l4) 70 (fun k1 => ix ((l1 * l3) + l4) 70 (fun k2 => Vv 237 0 3 [some (vR 36201 0), some (vI l1), some (vI l2), some (vI l3), some (vI (l4 + 1))] [] (sI σ 36201 0 k2 (gI σ 36201 0 k1)))) else some (none, σ) :=
  U_at (fun pc => Nat.beq pc 3) 400 rfl
set_option maxRecDepth 100000 in
theorem c_M_copyRow_4 (σ : St) (a2 a3 a4 : Int32) : Cc 237 0 [vR 18289 0, vI a2, vI a3, vI a4] σ = Vv 237 0 3 [some (vR 18289 0), some (vI a2), some (vI a3), some (vI a4), some (vI 0)] [] σ :=
  (Cc_eq _ _ _ _).trans (U_at (fun pc => Nat.beq pc 3) 400 rfl)
set_option maxRecDepth 100000 in
theorem v_M_copyRow_3_4 (σ : St) (l1 l2 l3 l4 : Int32) : Vv 237 0 3 [some (vR 18289 0), some (vI l1), some (vI l2), some (vI l3), some (vI l4)] [] σ = if l4 < l1 then ix ((l1 * l2) + l4) 35 (fun k1 => ix ((l1 * l3) + l4) 35 (fun k2 => Vv 237 0 3 [some (vR 18289 0), some (vI l1), some (vI l2), some (vI l3), some (vI (l4 + 1))] [] (sI σ 18289 0 k2 (gI σ 18289 0 k1)))) else some (none, σ) :=
  U_at (fun pc => Nat.beq pc 3) 400 rfl
set_option maxRecDepth 100000 in
theorem c_M_copyRow_5 (σ : St) (a2 a3 a4 : Int32) : Cc 237 0 [vR 31097 0, vI a2, vI a3, vI a4] σ = Vv 237 0 3 [some (vR 31097 0), some (vI a2), some (vI a3), some (vI a4), some (vI 0)] [] σ :=
  (Cc_eq _ _ _ _).trans (U_at (fun pc => Nat.beq pc 3) 400 rfl)
set_option maxRecDepth 100000 in
theorem v_M_copyRow_3_5 (σ : St) (l1 l2 l3 l4 : Int32) : Vv 237 0 3 [some (vR 31097 0), some (vI l1), some (vI l2), some (vI l3), some (vI l4)] [] σ = if l4 < l1 then ix ((l1 * l2) + l4) 60 (fun k1 => ix ((l1 * l3) + l4) 60 (fun k2 => Vv 237 0 3 [some (vR 31097 0), some (vI l1), some (vI l2), some (vI l3), some (vI (l4 + 1))] [] (sI σ 31097 0 k2 (gI σ 31097 0 k1)))) else some (none, σ) :=
  U_at (fun pc => Nat.beq pc 3) 400 rfl
set_option maxRecDepth 100000 in
theorem c_M_copyRow_6 (σ : St) (a2 a3 a4 : Int32) : Cc 237 0 [vR 51585 0, vI a2, vI a3, vI a4] σ = Vv 237 0 3 [some (vR 51585 0), some (vI a2), some (vI a3), some (vI a4), some (vI 0)] [] σ :=
  (Cc_eq _ _ _ _).trans (U_at (fun pc => Nat.beq pc 3) 400 rfl)
set_option maxRecDepth 100000 in
theorem v_M_copyRow_3_6 (σ : St) (l1 l2 l3 l4 : Int32) : Vv 237 0 3 [some (vR 51585 0), some (vI l1), some (vI l2), some (vI l3), some (vI l4)] [] σ = if l4 < l1 then ix ((l1 * l2) + l4) 100 (fun k1 => ix ((l1 * l3) + l4) 100 (fun k2 => Vv 237 0 3 [some (vR 51585 0), some (vI l1), some (vI l2), some (vI l3), some (vI (l4 + 1))] [] (sI σ 51585 0 k2 (gI σ 51585 0 k1)))) else some (none, σ) :=
  U_at (fun pc => Nat.beq pc 3) 400 rfl
set_option maxRecDepth 100000 in
theorem c_M_copyRow_7 (σ : St) (a2 a3 a4 : Int32) : Cc 237 0 [vR 31113 0, vI a2, vI a3, vI a4] σ = Vv 237 0 3 [some (vR 31113 0), some (vI a2), some (vI a3), some (vI a4), some (vI 0)] [] σ :=
  (Cc_eq _ _ _ _).trans (U_at (fun pc => Nat.beq pc 3) 400 rfl)
set_option maxRecDepth 100000 in
theorem v_M_copyRow_3_7 (σ : St) (l1 l2 l3 l4 : Int32) : Vv 237 0 3 [some (vR 31113 0), some (vI l1), some (vI l2), some (vI l3), some (vI l4)] [] σ = if l4 < l1 then ix ((l1 * l2) + l4) 60 (fun k1 => ix ((l1 * l3) + l4) 60 (fun k2 => Vv 237 0 3 [some (vR 31113 0), some (vI l1), some (vI l2), some (vI l3), some (vI (l4 + 1))] [] (sI σ 31113 0 k2 (gI σ 31113 0 k1)))) else some (none, σ) :=
  U_at (fun pc => Nat.beq pc 3) 400 rfl
set_option maxRecDepth 100000 in
theorem c_M_copyRow_8 (σ : St) (a2 a3 a4 : Int32) : Cc 237 0 [vR 307601 0, vI a2, vI a3, vI a4] σ = Vv 237 0 3 [some (vR 307601 0), some (vI a2), some (vI a3), some (vI a4), some (vI 0)] [] σ :=
  (Cc_eq _ _ _ _).trans (U_at (fun pc => Nat.beq pc 3) 400 rfl)
set_option maxRecDepth 100000 in
theorem v_M_copyRow_3_8 (σ : St) (l1 l2 l3 l4 : Int32) : Vv 237 0 3 [some (vR 307601 0), some (vI l1), some (vI l2), some (vI l3), some (vI l4)] [] σ = if l4 < l1 then ix ((l1 * l2) + l4) 600 (fun k1 => ix ((l1 * l3) + l4) 600 (fun k2 => Vv 237 0 3 [some (vR 307601 0), some (vI l1), some (vI l2), some (vI l3), some (vI (l4 + 1))] [] (sI σ 307601 0 k2 (gI σ 307601 0 k1)))) else some (none, σ) :=
  U_at (fun pc => Nat.beq pc 3) 400 rfl
/-! M.copyRoof -/
set_option maxRecDepth 100000 in
theorem c_M_copyRoof (σ : St) (a1 a2 : Int32) : Cc 238 0 [vR 96 0, vI a1, vI a2] σ = cV (Cc 237 0 [vR 2897 0, vI 1, vI a1, vI a2] σ) (fun σ1 => cV (Cc 237 0 [vR 23385 0, vI 9, vI a1, vI a2] σ1) (fun σ2 => cV (Cc 237 0 [vR 31073 0, vI 12, vI a1, vI a2] σ2) (fun σ3 => cV (Cc 237 0 [vR 36201 0, vI 14, vI a1, vI a2] σ3) (fun σ4 => cV (Cc 237 0 [vR 18289 0, vI 7, vI a1, vI a2] σ4) (fun σ5 => cV (Cc 237 0 [vR 31097 0, vI 12, vI a1, vI a2] σ5) (fun σ6 => cV (Cc 237 0 [vR 51585 0, vI 20, vI a1, vI a2] σ6) (fun σ7 => cV (Cc 237 0 [vR 31113 0, vI 12, vI a1, vI a2] σ7) (fun σ8 => cV (Cc 237 0 [vR 307601 0, vI 120, vI a1, vI a2] σ8) (fun σ9 => some (none, σ9)))))))))) :=
  (Cc_eq _ _ _ _).trans (U_at (fun pc => false) 400 rfl)
/-! M.isRoof -/
set_option maxRecDepth 100000 in
theorem c_M_isRoof (σ : St) : Cc 239 0 [vR 96 0] σ = ix 0 5 (fun k1 => if (gI σ 2897 0 k1) ≤ 0 then retZ 0 σ else retZ 1 σ) :=
  (Cc_eq _ _ _ _).trans (U_at (fun pc => false) 400 rfl)
/-! M.places -/
set_option maxRecDepth 100000 in
theorem c_M_places (σ : St) : Cc 240 0 [vR 96 0] σ = ix 3 45 (fun k1 => some (some (vI (gI σ 23385 0 k1)), σ)) :=
  (Cc_eq _ _ _ _).trans (U_at (fun pc => false) 400 rfl)
/-! M.marks -/
set_option maxRecDepth 100000 in
theorem c_M_marks (σ : St) : Cc 241 0 [vR 96 0] σ = ix 4 45 (fun k1 => some (some (vI (gI σ 23385 0 k1)), σ)) :=
  (Cc_eq _ _ _ _).trans (U_at (fun pc => false) 400 rfl)
/-! M.men -/
set_option maxRecDepth 100000 in
theorem c_M_men (σ : St) : Cc 242 0 [vR 96 0] σ = ix 7 45 (fun k1 => some (some (vI (gI σ 23385 0 k1)), σ)) :=
  (Cc_eq _ _ _ _).trans (U_at (fun pc => false) 400 rfl)
/-! M.years -/
set_option maxRecDepth 100000 in
theorem c_M_years (σ : St) : Cc 243 0 [vR 96 0] σ = ix 0 45 (fun k1 => some (some (vI (gI σ 23385 0 k1)), σ)) :=
  (Cc_eq _ _ _ _).trans (U_at (fun pc => false) 400 rfl)
/-! M.isPlace -/
set_option maxRecDepth 100000 in
theorem c_M_isPlace (σ : St) (a1 : Int64) : Cc 244 0 [vR 96 0, vL a1] σ = cI (Cc 240 0 [vR 96 0] σ) (fun x2 σ1 => cI (Cc 204 0 [vL a1, vL 0, vL ((Int32.toInt64 x2) - (1 : Int64))] σ1) (fun x4 σ3 => retZ x4 σ3)) :=
  (Cc_eq _ _ _ _).trans (U_at (fun pc => false) 400 rfl)
/-! M.isMark -/
set_option maxRecDepth 100000 in
theorem c_M_isMark (σ : St) (a1 : Int64) : Cc 245 0 [vR 96 0, vL a1] σ = cI (Cc 241 0 [vR 96 0] σ) (fun x2 σ1 => cI (Cc 204 0 [vL a1, vL 0, vL ((Int32.toInt64 x2) - (1 : Int64))] σ1) (fun x4 σ3 => retZ x4 σ3)) :=
  (Cc_eq _ _ _ _).trans (U_at (fun pc => false) 400 rfl)
/-! M.isFlue -/
set_option maxRecDepth 100000 in
theorem c_M_isFlue (σ : St) (a1 : Int32) : Cc 246 0 [vR 96 0, vI a1] σ = ix 5 45 (fun k1 => cI (Cc 204 0 [vL (Int32.toInt64 a1), vL 0, vL ((Int32.toInt64 (gI σ 23385 0 k1)) - (1 : Int64))] σ) (fun x3 σ2 => retZ x3 σ2)) :=
  (Cc_eq _ _ _ _).trans (U_at (fun pc => false) 400 rfl)
/-! M.isMan -/
set_option maxRecDepth 100000 in
theorem c_M_isMan (σ : St) (a1 : Int32) : Cc 247 0 [vR 96 0, vI a1] σ = cI (Cc 242 0 [vR 96 0] σ) (fun x2 σ1 => cI (Cc 204 0 [vL (Int32.toInt64 a1), vL 0, vL ((Int32.toInt64 x2) - (1 : Int64))] σ1) (fun x4 σ3 => retZ x4 σ3)) :=
  (Cc_eq _ _ _ _).trans (U_at (fun pc => false) 400 rfl)
/-! M.isYear -/
set_option maxRecDepth 100000 in
theorem c_M_isYear (σ : St) (a1 : Int64) : Cc 248 0 [vR 96 0, vL a1] σ = cI (Cc 239 0 [vR 96 0] σ) (fun x2 σ1 => if x2 = 0 then retZ 0 σ1 else cI (Cc 243 0 [vR 96 0] σ1) (fun x4 σ3 => cI (Cc 204 0 [vL a1, vL 0, vL (Int32.toInt64 x4)] σ3) (fun x6 σ5 => if x6 = 0 then retZ 0 σ5 else retZ 1 σ5))) :=
  (Cc_eq _ _ _ _).trans (U_at (fun pc => false) 400 rfl)
/-! M.isAhead -/
set_option maxRecDepth 100000 in
theorem c_M_isAhead (σ : St) (a1 : Int32) : Cc 249 0 [vR 96 0, vI a1] σ = cI (Cc 243 0 [vR 96 0] σ) (fun x2 σ1 => cI (Cc 204 0 [vL (Int32.toInt64 a1), vL 0, vL ((Int32.toInt64 x2) - (1 : Int64))] σ1) (fun x4 σ3 => retZ x4 σ3)) :=
  (Cc_eq _ _ _ _).trans (U_at (fun pc => false) 400 rfl)
/-! M.areTwo -/
set_option maxRecDepth 100000 in
theorem c_M_areTwo (σ : St) (a1 a2 : Int32) : Cc 250 0 [vR 96 0, vI a1, vI a2] σ = cI (Cc 247 0 [vR 96 0, vI a1] σ) (fun x2 σ1 => if x2 = 0 then retZ 0 σ1 else cI (Cc 247 0 [vR 96 0, vI a2] σ1) (fun x4 σ3 => if x4 = 0 then retZ 0 σ3 else if a1 = a2 then retZ 0 σ3 else retZ 1 σ3)) :=
  (Cc_eq _ _ _ _).trans (U_at (fun pc => false) 400 rfl)
/-! M.isHalf -/
set_option maxRecDepth 100000 in
theorem c_M_isHalf (σ : St) (a1 : Int32) : Cc 251 0 [vI a1] σ = cI (Cc 204 0 [vL (Int32.toInt64 a1), vL 0, vL 1] σ) (fun x2 σ1 => retZ x2 σ1) :=
  (Cc_eq _ _ _ _).trans (U_at (fun pc => false) 400 rfl)
/-! M.isBit -/
set_option maxRecDepth 100000 in
theorem c_M_isBit (σ : St) (a1 a2 : Int32) : Cc 252 0 [vI a1, vI a2] σ = if ((a1 >>> (a2 &&& 31)) &&& (1 : Int32)) = (1 : Int32) then retZ 1 σ else retZ 0 σ :=
  (Cc_eq _ _ _ _).trans (U_at (fun pc => false) 400 rfl)
/-! M.sizeOf -/
set_option maxRecDepth 100000 in
theorem c_M_sizeOf (σ : St) (a1 : Int32) : Cc 253 0 [vI a1] σ = Vv 253 0 4 [some (vI a1), some (vI 0), some (vI a1)] [] σ :=
  (Cc_eq _ _ _ _).trans (U_at (fun pc => Nat.beq pc 4) 400 rfl)
set_option maxRecDepth 100000 in
theorem v_M_sizeOf_4 (σ : St) (l0 l1 l2 : Int32) : Vv 253 0 4 [some (vI l0), some (vI l1), some (vI l2)] [] σ = if l2 = 0 then some (some (vI l1), σ) else Vv 253 0 4 [some (vI l0), some (vI (l1 + 1)), some (vI (l2 &&& (l2 - (1 : Int32))))] [] σ :=
  U_at (fun pc => Nat.beq pc 4) 400 rfl
/-! M.lessOf -/
set_option maxRecDepth 100000 in
theorem c_M_lessOf (σ : St) (a1 a2 : Int32) : Cc 254 0 [vI a1, vI a2] σ = if a1 < a2 then some (some (vI a1), σ) else some (some (vI a2), σ) :=
  (Cc_eq _ _ _ _).trans (U_at (fun pc => false) 400 rfl)
/-! M.moreOf -/
set_option maxRecDepth 100000 in
theorem c_M_moreOf (σ : St) (a1 a2 : Int32) : Cc 255 0 [vI a1, vI a2] σ = if a1 ≤ a2 then some (some (vI a2), σ) else some (some (vI a1), σ) :=
  (Cc_eq _ _ _ _).trans (U_at (fun pc => false) 400 rfl)
/-! M.isBetween -/
set_option maxRecDepth 100000 in
theorem c_M_isBetween (σ : St) (a1 a2 a3 : Int32) : Cc 256 0 [vR 96 0, vI a1, vI a2, vI a3] σ = ix ((2 : Int32) * a1) 60 (fun k1 => ix ((2 : Int32) * a2) 60 (fun k2 => ix (((2 : Int32) * a1) + (1 : Int32)) 60 (fun k3 => ix (((2 : Int32) * a2) + (1 : Int32)) 60 (fun k4 => Vv 256 0 42 [some (vR 96 0), some (vI a1), some (vI a2), some (vI a3), some (vI ((gI σ 31097 0 k1) - (gI σ 31073 0 k2))), some (vI ((gI σ 31097 0 k3) - (gI σ 31073 0 k4))), none, none] [] σ)))) :=
  (Cc_eq _ _ _ _).trans (U_at (fun pc => Nat.beq pc 42 || Nat.beq pc 84) 400 rfl)
set_option maxRecDepth 100000 in
theorem v_M_isBetween_42 (σ : St) (l1 l2 l3 l4 l5 : Int32) : Vv 256 0 42 [some (vR 96 0), some (vI l1), some (vI l2), some (vI l3), some (vI l4), some (vI l5), none, none] [] σ = ix ((2 : Int32) * l3) 70 (fun k1 => ix ((2 : Int32) * l2) 60 (fun k2 => ix (((2 : Int32) * l3) + (1 : Int32)) 70 (fun k3 => ix (((2 : Int32) * l2) + (1 : Int32)) 60 (fun k4 => Vv 256 0 84 [some (vR 96 0), some (vI l1), some (vI l2), some (vI l3), some (vI l4), some (vI l5), some (vI ((gI σ 36201 0 k1) - (gI σ 31073 0 k2))), some (vI ((gI σ 36201 0 k3) - (gI σ 31073 0 k4)))] [] σ)))) :=
  U_at (fun pc => Nat.beq pc 42 || Nat.beq pc 84) 400 rfl
set_option maxRecDepth 100000 in
theorem v_M_isBetween_84 (σ : St) (l1 l2 l3 l4 l5 l6 l7 : Int32) : Vv 256 0 84 [some (vR 96 0), some (vI l1), some (vI l2), some (vI l3), some (vI l4), some (vI l5), some (vI l6), some (vI l7)] [] σ = if (l4 * l7) = (l5 * l6) then cI (Cc 254 0 [vI 0, vI l6] σ) (fun x2 σ1 => cI (Cc 255 0 [vI 0, vI l6] σ1) (fun x4 σ3 => cI (Cc 204 0 [vL (Int32.toInt64 l4), vL (Int32.toInt64 x2), vL (Int32.toInt64 x4)] σ3) (fun x6 σ5 => if x6 = 0 then retZ 0 σ5 else cI (Cc 254 0 [vI 0, vI l7] σ5) (fun x8 σ7 => cI (Cc 255 0 [vI 0, vI l7] σ7) (fun x10 σ9 => cI (Cc 204 0 [vL (Int32.toInt64 l5), vL (Int32.toInt64 x8), vL (Int32.toInt64 x10)] σ9) (fun x12 σ11 => if x12 = 0 then retZ 0 σ11 else retZ 1 σ11)))))) else retZ 0 σ :=
  U_at (fun pc => Nat.beq pc 42 || Nat.beq pc 84) 400 rfl
/-! M.hidesOf -/
set_option maxRecDepth 100000 in
theorem c_M_hidesOf (σ : St) (a1 a2 : Int32) : Cc 257 0 [vR 96 0, vI a1, vI a2] σ = Vv 257 0 2 [some (vR 96 0), some (vI a1), some (vI a2), some (vI 0)] [] σ :=
  (Cc_eq _ _ _ _).trans (U_at (fun pc => Nat.beq pc 2) 400 rfl)
set_option maxRecDepth 100000 in
theorem v_M_hidesOf_2 (σ : St) (l1 l2 l3 : Int32) : Vv 257 0 2 [some (vR 96 0), some (vI l1), some (vI l2), some (vI l3)] [] σ = ix 5 45 (fun k1 => if l3 < (gI σ 23385 0 k1) then cI (Cc 252 0 [vI (gI σ 96 0 26), vI l3] σ) (fun x3 σ2 => if x3 = 0 then cI (Cc 256 0 [vR 96 0, vI l3, vI l1, vI l2] σ2) (fun x5 σ4 => if x5 = 0 then Vv 257 0 2 [some (vR 96 0), some (vI l1), some (vI l2), some (vI (l3 + 1))] [] σ4 else some (some (vI l3), σ4)) else Vv 257 0 2 [some (vR 96 0), some (vI l1), some (vI l2), some (vI (l3 + 1))] [] σ2) else some (some (vI (-1)), σ)) :=
  U_at (fun pc => Nat.beq pc 2) 400 rfl
/-! M.laysSees -/
set_option maxRecDepth 100000 in
theorem c_M_laysSees (σ : St) : Cc 258 0 [vR 96 0] σ = Vv 258 0 2 [some (vR 96 0), some (vI 0), none] [] σ :=
  (Cc_eq _ _ _ _).trans (U_at (fun pc => Nat.beq pc 2 || Nat.beq pc 19) 400 rfl)
set_option maxRecDepth 100000 in
theorem v_M_laysSees_2 (σ : St) (l1 : Int32) : Vv 258 0 2 [some (vR 96 0), some (vI l1), none] [] σ = cI (Cc 240 0 [vR 96 0] σ) (fun x2 σ1 => if l1 < x2 then ix l1 6 (fun k3 => Vv 258 0 19 [some (vR 96 0), some (vI l1), some (vI 0)] [] (sI σ1 3489 0 k3 0)) else some (none, σ1)) :=
  U_at (fun pc => Nat.beq pc 2 || Nat.beq pc 19) 400 rfl
set_option maxRecDepth 100000 in
theorem v_M_laysSees_19 (σ : St) (l1 l2 : Int32) : Vv 258 0 19 [some (vR 96 0), some (vI l1), some (vI l2)] [] σ = cI (Cc 241 0 [vR 96 0] σ) (fun x2 σ1 => if l2 < x2 then ix l1 6 (fun k3 => cI (Cc 257 0 [vR 96 0, vI l1, vI l2] σ1) (fun x5 σ4 => if x5 = (-1 : Int32) then ix l1 6 (fun k6 => Vv 258 0 19 [some (vR 96 0), some (vI l1), some (vI (l2 + 1))] [] (sI σ4 3489 0 k6 ((gI σ1 3489 0 k3) ||| ((1 : Int32) <<< (l2 &&& 31))))) else ix l1 6 (fun k7 => Vv 258 0 19 [some (vR 96 0), some (vI l1), some (vI (l2 + 1))] [] (sI σ4 3489 0 k7 ((gI σ1 3489 0 k3) ||| (0 : Int32)))))) else Vv 258 0 2 [some (vR 96 0), some (vI (l1 + 1)), none] [] σ1) :=
  U_at (fun pc => Nat.beq pc 2 || Nat.beq pc 19) 400 rfl
/-! M.laysFlues -/
set_option maxRecDepth 100000 in
theorem c_M_laysFlues (σ : St) : Cc 259 0 [vR 96 0] σ = Vv 259 0 7 [some (vR 96 0), some (vI 0)] [] (sI σ 96 0 26 0) :=
  (Cc_eq _ _ _ _).trans (U_at (fun pc => Nat.beq pc 7) 400 rfl)
set_option maxRecDepth 100000 in
theorem v_M_laysFlues_7 (σ : St) (l1 : Int32) : Vv 259 0 7 [some (vR 96 0), some (vI l1)] [] σ = ix 8 45 (fun k1 => if l1 < (gI σ 23385 0 k1) then ix ((4 : Int32) * l1) 600 (fun k2 => if (gI σ 307601 0 k2) = (-1 : Int32) then Vv 259 0 7 [some (vR 96 0), some (vI (l1 + 1))] [] σ else ix ((4 : Int32) * l1) 600 (fun k3 => Vv 259 0 7 [some (vR 96 0), some (vI (l1 + 1))] [] (sI σ 96 0 26 ((gI σ 96 0 26) ||| ((1 : Int32) <<< ((gI σ 307601 0 k3) &&& 31)))))) else some (none, σ)) :=
  U_at (fun pc => Nat.beq pc 7) 400 rfl
/-! M.worthOf -/
set_option maxRecDepth 100000 in
theorem c_M_worthOf (σ : St) (a1 : Int32) : Cc 260 0 [vR 96 0, vI a1] σ = Vv 260 0 4 [some (vR 96 0), some (vI a1), some (vI 0), some (vI 0)] [] σ :=
  (Cc_eq _ _ _ _).trans (U_at (fun pc => Nat.beq pc 4) 400 rfl)
set_option maxRecDepth 100000 in
theorem v_M_worthOf_4 (σ : St) (l1 l2 l3 : Int32) : Vv 260 0 4 [some (vR 96 0), some (vI l1), some (vI l2), some (vI l3)] [] σ = cI (Cc 241 0 [vR 96 0] σ) (fun x2 σ1 => if l3 < x2 then cI (Cc 252 0 [vI l1, vI l3] σ1) (fun x4 σ3 => if x4 = 0 then Vv 260 0 4 [some (vR 96 0), some (vI l1), some (vI (l2 + (0 : Int32))), some (vI (l3 + 1))] [] σ3 else ix l3 35 (fun k5 => Vv 260 0 4 [some (vR 96 0), some (vI l1), some (vI (l2 + (gI σ3 18289 0 k5))), some (vI (l3 + 1))] [] σ3)) else some (some (vI l2), σ1)) :=
  U_at (fun pc => Nat.beq pc 4) 400 rfl
/-! M.placeWorth -/
set_option maxRecDepth 100000 in
theorem c_M_placeWorth (σ : St) (a1 : Int32) : Cc 261 0 [vR 96 0, vI a1] σ = ix a1 6 (fun k1 => cI (Cc 260 0 [vR 96 0, vI (gI σ 3489 0 k1)] σ) (fun x3 σ2 => some (some (vI x3), σ2))) :=
  (Cc_eq _ _ _ _).trans (U_at (fun pc => false) 400 rfl)
/-! M.lays -/
set_option maxRecDepth 100000 in
theorem c_M_lays (σ : St) : Cc 262 0 [vR 96 0] σ = ix 1 45 (fun k1 => Vv 262 0 19 [some (vR 96 0), some (vI 0)] [] (sI (sI σ 96 0 28 (gI σ 23385 0 k1)) 96 0 29 4095)) :=
  (Cc_eq _ _ _ _).trans (U_at (fun pc => Nat.beq pc 19) 400 rfl)
set_option maxRecDepth 100000 in
theorem v_M_lays_19 (σ : St) (l1 : Int32) : Vv 262 0 19 [some (vR 96 0), some (vI l1)] [] σ = cI (Cc 242 0 [vR 96 0] σ) (fun x2 σ1 => if l1 < x2 then ix ((2 : Int32) * l1) 60 (fun k3 => ix l1 6 (fun k4 => Vv 262 0 19 [some (vR 96 0), some (vI (l1 + 1))] [] (sI σ1 3497 0 k4 (gI σ1 31113 0 k3)))) else cV (Cc 259 0 [vR 96 0] σ1) (fun σ5 => cV (Cc 258 0 [vR 96 0] σ5) (fun σ6 => some (none, σ6)))) :=
  U_at (fun pc => Nat.beq pc 19) 400 rfl
/-! M.hopeOf -/
set_option maxRecDepth 100000 in
theorem c_M_hopeOf (σ : St) (a1 : Int32) : Cc 263 0 [vR 96 0, vI a1] σ = ix (((2 : Int32) * a1) + (1 : Int32)) 60 (fun k1 => some (some (vI (gI σ 31113 0 k1)), σ)) :=
  (Cc_eq _ _ _ _).trans (U_at (fun pc => false) 400 rfl)
/-! M.isGlad -/
set_option maxRecDepth 100000 in
theorem c_M_isGlad (σ : St) (a1 a2 : Int32) : Cc 264 0 [vR 96 0, vI a1, vI a2] σ = ix a2 6 (fun k1 => cI (Cc 263 0 [vR 96 0, vI a1] σ) (fun x3 σ2 => cI (Cc 252 0 [vI (gI σ 3489 0 k1), vI x3] σ2) (fun x5 σ4 => retZ x5 σ4))) :=
  (Cc_eq _ _ _ _).trans (U_at (fun pc => false) 400 rfl)
/-! M.exchanges -/
set_option maxRecDepth 100000 in
theorem c_M_exchanges (σ : St) (a1 : Int32) : Cc 265 0 [vR 96 0, vI a1] σ = Vv 265 0 2 [some (vR 96 0), some (vI a1), some (vI 0), none, none, none] [] σ :=
  (Cc_eq _ _ _ _).trans (U_at (fun pc => Nat.beq pc 2) 400 rfl)
set_option maxRecDepth 100000 in
theorem v_M_exchanges_2 (σ : St) (l1 l2 : Int32) : Vv 265 0 2 [some (vR 96 0), some (vI l1), some (vI l2), none, none, none] [] σ = ix 8 45 (fun k1 => if l2 < (gI σ 23385 0 k1) then ix ((4 : Int32) * l2) 600 (fun k2 => if (gI σ 307601 0 k2) = (-1 : Int32) then ix (((4 : Int32) * l2) + (3 : Int32)) 600 (fun k3 => if (gI σ 307601 0 k3) = l1 then ix (((4 : Int32) * l2) + (1 : Int32)) 600 (fun k4 => ix (((4 : Int32) * l2) + (2 : Int32)) 600 (fun k5 => ix (gI σ 307601 0 k4) 6 (fun k6 => ix (gI σ 307601 0 k5) 6 (fun k7 => ix (gI σ 307601 0 k4) 6 (fun k8 => ix (gI σ 307601 0 k5) 6 (fun k9 => Vv 265 0 2 [some (vR 96 0), some (vI l1), some (vI (l2 + 1)), some (vI (gI σ 307601 0 k4)), some (vI (gI σ 307601 0 k5)), some (vI (gI σ 3505 0 k6))] [] (sI (sI σ 3505 0 k8 (gI σ 3505 0 k7)) 3505 0 k9 (gI σ 3505 0 k6)))))))) else Vv 265 0 2 [some (vR 96 0), some (vI l1), some (vI (l2 + 1)), none, none, none] [] σ) else Vv 265 0 2 [some (vR 96 0), some (vI l1), some (vI (l2 + 1)), none, none, none] [] σ) else some (none, σ)) :=
  U_at (fun pc => Nat.beq pc 2) 400 rfl
/-! M.oneBy -/
set_option maxRecDepth 100000 in
theorem c_M_oneBy (σ : St) (a1 a2 : Int32) : Cc 266 0 [vR 96 0, vI a1, vI a2] σ = Vv 266 0 5 [some (vR 96 0), some (vI a1), some (vI a2), some (vI (-1)), some (vI 0)] [] σ :=
  (Cc_eq _ _ _ _).trans (U_at (fun pc => Nat.beq pc 5) 400 rfl)
set_option maxRecDepth 100000 in
theorem v_M_oneBy_5 (σ : St) (l1 l2 l3 l4 : Int32) : Vv 266 0 5 [some (vR 96 0), some (vI l1), some (vI l2), some (vI l3), some (vI l4)] [] σ = cI (Cc 242 0 [vR 96 0] σ) (fun x2 σ1 => if l4 < x2 then if l4 = l1 then Vv 266 0 5 [some (vR 96 0), some (vI l1), some (vI l2), some (vI l3), some (vI (l4 + 1))] [] σ1 else if l3 = (-1 : Int32) then Vv 266 0 5 [some (vR 96 0), some (vI l1), some (vI l2), some (vI l4), some (vI (l4 + 1))] [] σ1 else ix l4 6 (fun k3 => cI (Cc 261 0 [vR 96 0, vI (gI σ1 3505 0 k3)] σ1) (fun x5 σ4 => ix l3 6 (fun k6 => cI (Cc 261 0 [vR 96 0, vI (gI σ4 3505 0 k6)] σ4) (fun x8 σ7 => if (l2 * x5) ≤ (l2 * x8) then Vv 266 0 5 [some (vR 96 0), some (vI l1), some (vI l2), some (vI l3), some (vI (l4 + 1))] [] σ7 else Vv 266 0 5 [some (vR 96 0), some (vI l1), some (vI l2), some (vI l4), some (vI (l4 + 1))] [] σ7)))) else some (some (vI l3), σ1)) :=
  U_at (fun pc => Nat.beq pc 5) 400 rfl
/-! M.changes -/
set_option maxRecDepth 100000 in
theorem c_M_changes (σ : St) : Cc 267 0 [vR 96 0] σ = cI (Cc 266 0 [vR 96 0, vI (-1), vI 1] σ) (fun x2 σ1 => if x2 = (-1 : Int32) then if (-1 : Int32) = (-1 : Int32) then some (none, σ1) else ix x2 6 (fun k3 => ix (-1) 6 (fun k4 => ix x2 6 (fun k5 => ix (-1) 6 (fun k6 => some (none, sI (sI σ1 3505 0 k5 (gI σ1 3505 0 k4)) 3505 0 k6 (gI σ1 3505 0 k3)))))) else cI (Cc 266 0 [vR 96 0, vI x2, vI (-1)] σ1) (fun x8 σ7 => if x8 = (-1 : Int32) then some (none, σ7) else ix x2 6 (fun k9 => ix x8 6 (fun k10 => ix x2 6 (fun k11 => ix x8 6 (fun k12 => some (none, sI (sI σ7 3505 0 k11 (gI σ7 3505 0 k10)) 3505 0 k12 (gI σ7 3505 0 k9)))))))) :=
  (Cc_eq _ _ _ _).trans (U_at (fun pc => false) 400 rfl)
/-! M.nextPlace -/
set_option maxRecDepth 100000 in
theorem c_M_nextPlace (σ : St) (a1 a2 : Int32) : Cc 268 0 [vR 96 0, vI a1, vI a2] σ = Vv 268 0 2 [some (vR 96 0), some (vI a1), some (vI a2), some (vI 1)] [] σ :=
  (Cc_eq _ _ _ _).trans (U_at (fun pc => Nat.beq pc 2) 400 rfl)
set_option maxRecDepth 100000 in
theorem v_M_nextPlace_2 (σ : St) (l1 l2 l3 : Int32) : Vv 268 0 2 [some (vR 96 0), some (vI l1), some (vI l2), some (vI l3)] [] σ = cI (Cc 240 0 [vR 96 0] σ) (fun x2 σ1 => if l3 ≤ x2 then cI (Cc 240 0 [vR 96 0] σ1) (fun x4 σ3 => if x4 = 0 then none else cI (Cc 252 0 [vI l2, vI ((l1 + l3) - (l1 + l3) / x4 * x4)] σ3) (fun x6 σ5 => if x6 = 0 then Vv 268 0 2 [some (vR 96 0), some (vI l1), some (vI l2), some (vI (l3 + 1))] [] σ5 else cI (Cc 240 0 [vR 96 0] σ5) (fun x8 σ7 => if x8 = 0 then none else some (some (vI ((l1 + l3) - (l1 + l3) / x8 * x8)), σ7)))) else some (some (vI l1), σ1)) :=
  U_at (fun pc => Nat.beq pc 2) 400 rfl
/-! M.moves -/
set_option maxRecDepth 100000 in
theorem c_M_moves (σ : St) : Cc 269 0 [vR 96 0] σ = if (gI σ 96 0 28) = (2 : Int32) then cV (Cc 267 0 [vR 96 0] σ) (fun σ1 => some (none, σ1)) else cI (Cc 240 0 [vR 96 0] σ) (fun x3 σ2 => if (gI σ2 96 0 28) = (3 : Int32) then Vv 269 0 38 [some (vR 96 0), some (vI (((1 : Int32) <<< (x3 &&& 31)) - (1 : Int32))), some (vI 0), some (vI 0)] [] σ2 else Vv 269 0 38 [some (vR 96 0), some (vI (((1 : Int32) <<< (x3 &&& 31)) - (1 : Int32))), some (vI (((1 : Int32) <<< (x3 &&& 31)) - (1 : Int32))), some (vI 0)] [] σ2) :=
  (Cc_eq _ _ _ _).trans (U_at (fun pc => Nat.beq pc 38 || Nat.beq pc 87) 400 rfl)
set_option maxRecDepth 100000 in
theorem v_M_moves_38 (σ : St) (l1 l2 l3 : Int32) : Vv 269 0 38 [some (vR 96 0), some (vI l1), some (vI l2), some (vI l3)] [] σ = cI (Cc 242 0 [vR 96 0] σ) (fun x2 σ1 => if l3 < x2 then if (gI σ1 96 0 28) = (3 : Int32) then ix l3 6 (fun k3 => cI (Cc 264 0 [vR 96 0, vI l3, vI (gI σ1 3505 0 k3)] σ1) (fun x5 σ4 => if x5 = 0 then ix l3 6 (fun k6 => Vv 269 0 38 [some (vR 96 0), some (vI l1), some (vI (l2 ||| ((1 : Int32) <<< ((gI σ4 3505 0 k6) &&& 31)))), some (vI (l3 + 1))] [] σ4) else Vv 269 0 38 [some (vR 96 0), some (vI l1), some (vI l2), some (vI (l3 + 1))] [] σ4)) else Vv 269 0 38 [some (vR 96 0), some (vI l1), some (vI l2), some (vI (l3 + 1))] [] σ1 else Vv 269 0 87 [some (vR 96 0), some (vI l1), some (vI l2), some (vI 0)] [] σ1) :=
  U_at (fun pc => Nat.beq pc 38 || Nat.beq pc 87) 400 rfl
set_option maxRecDepth 100000 in
theorem v_M_moves_87 (σ : St) (l1 l2 l3 : Int32) : Vv 269 0 87 [some (vR 96 0), some (vI l1), some (vI l2), some (vI l3)] [] σ = cI (Cc 242 0 [vR 96 0] σ) (fun x2 σ1 => if l3 < x2 then if (gI σ1 96 0 28) = (1 : Int32) then ix l3 6 (fun k3 => cI (Cc 240 0 [vR 96 0] σ1) (fun x5 σ4 => cI (Cc 240 0 [vR 96 0] σ4) (fun x7 σ6 => if x7 = 0 then none else ix l3 6 (fun k8 => Vv 269 0 87 [some (vR 96 0), some (vI l1), some (vI l2), some (vI (l3 + 1))] [] (sI σ6 3505 0 k8 ((((gI σ1 3505 0 k3) + x5) - (1 : Int32)) - (((gI σ1 3505 0 k3) + x5) - (1 : Int32)) / x7 * x7)))))) else if (gI σ1 96 0 28) = 0 then ix l3 6 (fun k9 => cI (Cc 268 0 [vR 96 0, vI (gI σ1 3505 0 k9), vI l2] σ1) (fun x11 σ10 => ix l3 6 (fun k12 => Vv 269 0 87 [some (vR 96 0), some (vI l1), some (vI l2), some (vI (l3 + 1))] [] (sI σ10 3505 0 k12 x11)))) else ix l3 6 (fun k13 => cI (Cc 252 0 [vI l2, vI (gI σ1 3505 0 k13)] σ1) (fun x15 σ14 => if x15 = 0 then Vv 269 0 87 [some (vR 96 0), some (vI l1), some (vI l2), some (vI (l3 + 1))] [] σ14 else ix l3 6 (fun k16 => cI (Cc 268 0 [vR 96 0, vI (gI σ14 3505 0 k16), vI l2] σ14) (fun x18 σ17 => ix l3 6 (fun k19 => Vv 269 0 87 [some (vR 96 0), some (vI l1), some (vI l2), some (vI (l3 + 1))] [] (sI σ17 3505 0 k19 x18)))))) else some (none, σ1)) :=
  U_at (fun pc => Nat.beq pc 38 || Nat.beq pc 87) 400 rfl
/-! M.runs -/
set_option maxRecDepth 100000 in
theorem c_M_runs (σ : St) : Cc 270 0 [vR 96 0] σ = Vv 270 0 2 [some (vR 96 0), some (vI 0), none] [] σ :=
  (Cc_eq _ _ _ _).trans (U_at (fun pc => Nat.beq pc 2 || Nat.beq pc 30 || Nat.beq pc 53) 400 rfl)
set_option maxRecDepth 100000 in
theorem v_M_runs_2 (σ : St) (l1 : Int32) : Vv 270 0 2 [some (vR 96 0), some (vI l1), none] [] σ = cI (Cc 242 0 [vR 96 0] σ) (fun x2 σ1 => if l1 < x2 then ix l1 6 (fun k3 => ix l1 6 (fun k4 => Vv 270 0 2 [some (vR 96 0), some (vI (l1 + 1)), none] [] (sI σ1 3505 0 k4 (gI σ1 3497 0 k3)))) else Vv 270 0 30 [some (vR 96 0), some (vI 0), none] [] σ1) :=
  U_at (fun pc => Nat.beq pc 2 || Nat.beq pc 30 || Nat.beq pc 53) 400 rfl
set_option maxRecDepth 100000 in
theorem v_M_runs_30 (σ : St) (l1 : Int32) : Vv 270 0 30 [some (vR 96 0), some (vI l1), none] [] σ = cI (Cc 243 0 [vR 96 0] σ) (fun x2 σ1 => if l1 ≤ x2 then cI (Cc 243 0 [vR 96 0] σ1) (fun x4 σ3 => if l1 < x4 then cV (Cc 265 0 [vR 96 0, vI l1] σ3) (fun σ5 => Vv 270 0 53 [some (vR 96 0), some (vI l1), some (vI 0)] [] σ5) else Vv 270 0 53 [some (vR 96 0), some (vI l1), some (vI 0)] [] σ3) else some (none, σ1)) :=
  U_at (fun pc => Nat.beq pc 2 || Nat.beq pc 30 || Nat.beq pc 53) 400 rfl
set_option maxRecDepth 100000 in
theorem v_M_runs_53 (σ : St) (l1 l2 : Int32) : Vv 270 0 53 [some (vR 96 0), some (vI l1), some (vI l2)] [] σ = cI (Cc 242 0 [vR 96 0] σ) (fun x2 σ1 => if l2 < x2 then ix l2 6 (fun k3 => ix (((6 : Int32) * l1) + l2) 78 (fun k4 => Vv 270 0 53 [some (vR 96 0), some (vI l1), some (vI (l2 + 1))] [] (sI σ1 40377 0 k4 (gI σ1 3505 0 k3)))) else cI (Cc 243 0 [vR 96 0] σ1) (fun x6 σ5 => if l1 < x6 then cI (Cc 252 0 [vI (gI σ5 96 0 29), vI l1] σ5) (fun x8 σ7 => if x8 = 0 then Vv 270 0 30 [some (vR 96 0), some (vI (l1 + 1)), none] [] σ7 else cV (Cc 269 0 [vR 96 0] σ7) (fun σ9 => Vv 270 0 30 [some (vR 96 0), some (vI (l1 + 1)), none] [] σ9)) else Vv 270 0 30 [some (vR 96 0), some (vI (l1 + 1)), none] [] σ5)) :=
  U_at (fun pc => Nat.beq pc 2 || Nat.beq pc 30 || Nat.beq pc 53) 400 rfl
/-! M.laysNow -/
set_option maxRecDepth 100000 in
theorem c_M_laysNow (σ : St) : Cc 271 0 [vR 96 0] σ = cV (Cc 262 0 [vR 96 0] σ) (fun σ1 => cV (Cc 270 0 [vR 96 0] σ1) (fun σ2 => some (none, σ2))) :=
  (Cc_eq _ _ _ _).trans (U_at (fun pc => false) 400 rfl)
/-! M.seesAt -/
set_option maxRecDepth 100000 in
theorem c_M_seesAt (σ : St) (a1 a2 : Int32) : Cc 272 0 [vR 96 0, vI a1, vI a2] σ = ix (((6 : Int32) * a2) + a1) 78 (fun k1 => ix (gI σ 40377 0 k1) 6 (fun k2 => some (some (vI (gI σ 3489 0 k2)), σ))) :=
  (Cc_eq _ _ _ _).trans (U_at (fun pc => false) 400 rfl)
/-! M.joyOf -/
set_option maxRecDepth 100000 in
theorem c_M_joyOf (σ : St) (a1 a2 : Int32) : Cc 273 0 [vR 96 0, vI a1, vI a2] σ = if a2 = 0 then cI (Cc 272 0 [vR 96 0, vI a1, vI 0] σ) (fun x2 σ1 => cI (Cc 260 0 [vR 96 0, vI x2] σ1) (fun x4 σ3 => some (some (vI x4), σ3))) else cI (Cc 272 0 [vR 96 0, vI a1, vI a2] σ) (fun x6 σ5 => cI (Cc 272 0 [vR 96 0, vI a1, vI (a2 - (1 : Int32))] σ5) (fun x8 σ7 => cI (Cc 260 0 [vR 96 0, vI (x6 &&& (x8 ^^^ (-1 : Int32)))] σ7) (fun x10 σ9 => some (some (vI x10), σ9)))) :=
  (Cc_eq _ _ _ _).trans (U_at (fun pc => false) 400 rfl)
/-! M.lifeOf -/
set_option maxRecDepth 100000 in
theorem c_M_lifeOf (σ : St) (a1 : Int32) : Cc 274 0 [vR 96 0, vI a1] σ = Vv 274 0 4 [some (vR 96 0), some (vI a1), some (vI 0), some (vI 0)] [] σ :=
  (Cc_eq _ _ _ _).trans (U_at (fun pc => Nat.beq pc 4) 400 rfl)
set_option maxRecDepth 100000 in
theorem v_M_lifeOf_4 (σ : St) (l1 l2 l3 : Int32) : Vv 274 0 4 [some (vR 96 0), some (vI l1), some (vI l2), some (vI l3)] [] σ = cI (Cc 243 0 [vR 96 0] σ) (fun x2 σ1 => if l3 ≤ x2 then cI (Cc 273 0 [vR 96 0, vI l1, vI l3] σ1) (fun x4 σ3 => Vv 274 0 4 [some (vR 96 0), some (vI l1), some (vI (l2 + x4)), some (vI (l3 + 1))] [] σ3) else some (some (vI l2), σ1)) :=
  U_at (fun pc => Nat.beq pc 4) 400 rfl
/-! M.joyAll -/
set_option maxRecDepth 100000 in
theorem c_M_joyAll (σ : St) : Cc 275 0 [vR 96 0] σ = Vv 275 0 4 [some (vR 96 0), some (vI 0), some (vI 0)] [] σ :=
  (Cc_eq _ _ _ _).trans (U_at (fun pc => Nat.beq pc 4) 400 rfl)
set_option maxRecDepth 100000 in
theorem v_M_joyAll_4 (σ : St) (l1 l2 : Int32) : Vv 275 0 4 [some (vR 96 0), some (vI l1), some (vI l2)] [] σ = cI (Cc 242 0 [vR 96 0] σ) (fun x2 σ1 => if l2 < x2 then cI (Cc 274 0 [vR 96 0, vI l2] σ1) (fun x4 σ3 => Vv 275 0 4 [some (vR 96 0), some (vI (l1 + x4)), some (vI (l2 + 1))] [] σ3) else some (some (vI l1), σ1)) :=
  U_at (fun pc => Nat.beq pc 4) 400 rfl
/-! M.gladAt -/
set_option maxRecDepth 100000 in
theorem c_M_gladAt (σ : St) (a1 : Int32) : Cc 276 0 [vR 96 0, vI a1] σ = Vv 276 0 4 [some (vR 96 0), some (vI a1), some (vI 0), some (vI 0)] [] σ :=
  (Cc_eq _ _ _ _).trans (U_at (fun pc => Nat.beq pc 4) 400 rfl)
set_option maxRecDepth 100000 in
theorem v_M_gladAt_4 (σ : St) (l1 l2 l3 : Int32) : Vv 276 0 4 [some (vR 96 0), some (vI l1), some (vI l2), some (vI l3)] [] σ = cI (Cc 242 0 [vR 96 0] σ) (fun x2 σ1 => if l3 < x2 then ix (((6 : Int32) * l1) + l3) 78 (fun k3 => cI (Cc 264 0 [vR 96 0, vI l3, vI (gI σ1 40377 0 k3)] σ1) (fun x5 σ4 => if x5 = 0 then Vv 276 0 4 [some (vR 96 0), some (vI l1), some (vI (l2 ||| (0 : Int32))), some (vI (l3 + 1))] [] σ4 else Vv 276 0 4 [some (vR 96 0), some (vI l1), some (vI (l2 ||| ((1 : Int32) <<< (l3 &&& 31)))), some (vI (l3 + 1))] [] σ4)) else some (some (vI l2), σ1)) :=
  U_at (fun pc => Nat.beq pc 4) 400 rfl
/-! M.drillOf -/
set_option maxRecDepth 100000 in
theorem c_M_drillOf (σ : St) (a1 : Int32) : Cc 277 0 [vR 96 0, vI a1] σ = Vv 277 0 2 [some (vR 96 0), some (vI a1), some (vI 0)] [] σ :=
  (Cc_eq _ _ _ _).trans (U_at (fun pc => Nat.beq pc 2) 400 rfl)
set_option maxRecDepth 100000 in
theorem v_M_drillOf_2 (σ : St) (l1 l2 : Int32) : Vv 277 0 2 [some (vR 96 0), some (vI l1), some (vI l2)] [] σ = cI (Cc 243 0 [vR 96 0] σ) (fun x2 σ1 => if l2 ≤ x2 then cI (Cc 276 0 [vR 96 0, vI l2] σ1) (fun x4 σ3 => cI (Cc 252 0 [vI x4, vI l1] σ3) (fun x6 σ5 => if x6 = 0 then Vv 277 0 2 [some (vR 96 0), some (vI l1), some (vI (l2 + 1))] [] σ5 else some (some (vI l2), σ5))) else some (some (vI (-1)), σ1)) :=
  U_at (fun pc => Nat.beq pc 2) 400 rfl
/-! M.place -/
set_option maxRecDepth 100000 in
theorem c_M_place (σ : St) (a1 a2 : Int32) : Cc 278 0 [vR 96 0, vI a1, vI a2] σ = cI (Cc 244 0 [vR 96 0, vL (Int32.toInt64 a1)] (sI σ 96 0 0 0)) (fun x2 σ1 => if x2 = 0 then some (some (vI (-2)), σ1) else cI (Cc 251 0 [vI a2] σ1) (fun x4 σ3 => if x4 = 0 then some (some (vI (-2)), σ3) else ix (((2 : Int32) * a1) + a2) 60 (fun k5 => some (some (vI (gI σ3 31073 0 k5)), σ3)))) :=
  (Cc_eq _ _ _ _).trans (U_at (fun pc => false) 400 rfl)
/-! M.mark -/
set_option maxRecDepth 100000 in
theorem c_M_mark (σ : St) (a1 a2 : Int32) : Cc 279 0 [vR 96 0, vI a1, vI a2] σ = cI (Cc 245 0 [vR 96 0, vL (Int32.toInt64 a1)] (sI σ 96 0 0 0)) (fun x2 σ1 => if x2 = 0 then some (some (vI (-2)), σ1) else cI (Cc 204 0 [vL (Int32.toInt64 a2), vL 0, vL 2] σ1) (fun x4 σ3 => if x4 = 0 then some (some (vI (-2)), σ3) else if a2 = (2 : Int32) then ix a1 35 (fun k5 => some (some (vI (gI σ3 18289 0 k5)), σ3)) else ix (((2 : Int32) * a1) + a2) 70 (fun k6 => some (some (vI (gI σ3 36201 0 k6)), σ3)))) :=
  (Cc_eq _ _ _ _).trans (U_at (fun pc => false) 400 rfl)
/-! M.flue -/
set_option maxRecDepth 100000 in
theorem c_M_flue (σ : St) (a1 a2 : Int32) : Cc 280 0 [vR 96 0, vI a1, vI a2] σ = cI (Cc 246 0 [vR 96 0, vI a1] (sI σ 96 0 0 0)) (fun x2 σ1 => if x2 = 0 then some (some (vI (-2)), σ1) else cI (Cc 204 0 [vL (Int32.toInt64 a2), vL 0, vL 2] σ1) (fun x4 σ3 => if x4 = 0 then some (some (vI (-2)), σ3) else cV (Cc 259 0 [vR 96 0] σ3) (fun σ5 => if a2 < (2 : Int32) then ix (((2 : Int32) * a1) + a2) 60 (fun k6 => some (some (vI (gI σ5 31097 0 k6)), σ5)) else cI (Cc 252 0 [vI (gI σ5 96 0 26), vI a1] σ5) (fun x8 σ7 => if x8 = 0 then some (some (vI 1), σ7) else some (some (vI 0), σ7))))) :=
  (Cc_eq _ _ _ _).trans (U_at (fun pc => false) 400 rfl)
/-! M.looker -/
set_option maxRecDepth 100000 in
theorem c_M_looker (σ : St) (a1 a2 : Int32) : Cc 281 0 [vR 96 0, vI a1, vI a2] σ = cI (Cc 247 0 [vR 96 0, vI a1] (sI σ 96 0 0 0)) (fun x2 σ1 => if x2 = 0 then some (some (vI (-2)), σ1) else cI (Cc 251 0 [vI a2] σ1) (fun x4 σ3 => if x4 = 0 then some (some (vI (-2)), σ3) else ix (((2 : Int32) * a1) + a2) 60 (fun k5 => some (some (vI (gI σ3 31113 0 k5)), σ3)))) :=
  (Cc_eq _ _ _ _).trans (U_at (fun pc => false) 400 rfl)
/-! M.isWay -/
set_option maxRecDepth 100000 in
theorem c_M_isWay (σ : St) (a1 a2 : Int32) : Cc 282 0 [vR 96 0, vI a1, vI a2] σ = Vv 282 0 2 [some (vR 96 0), some (vI a1), some (vI a2), some (vI 0)] [] σ :=
  (Cc_eq _ _ _ _).trans (U_at (fun pc => Nat.beq pc 2) 400 rfl)
set_option maxRecDepth 100000 in
theorem v_M_isWay_2 (σ : St) (l1 l2 l3 : Int32) : Vv 282 0 2 [some (vR 96 0), some (vI l1), some (vI l2), some (vI l3)] [] σ = ix 6 45 (fun k1 => if l3 < (gI σ 23385 0 k1) then ix ((2 : Int32) * l3) 100 (fun k2 => if (gI σ 51585 0 k2) = l1 then ix (((2 : Int32) * l3) + (1 : Int32)) 100 (fun k3 => if (gI σ 51585 0 k3) = l2 then retZ 1 σ else ix ((2 : Int32) * l3) 100 (fun k4 => if (gI σ 51585 0 k4) = l2 then ix (((2 : Int32) * l3) + (1 : Int32)) 100 (fun k5 => if (gI σ 51585 0 k5) = l1 then retZ 1 σ else Vv 282 0 2 [some (vR 96 0), some (vI l1), some (vI l2), some (vI (l3 + 1))] [] σ) else Vv 282 0 2 [some (vR 96 0), some (vI l1), some (vI l2), some (vI (l3 + 1))] [] σ)) else ix ((2 : Int32) * l3) 100 (fun k6 => if (gI σ 51585 0 k6) = l2 then ix (((2 : Int32) * l3) + (1 : Int32)) 100 (fun k7 => if (gI σ 51585 0 k7) = l1 then retZ 1 σ else Vv 282 0 2 [some (vR 96 0), some (vI l1), some (vI l2), some (vI (l3 + 1))] [] σ) else Vv 282 0 2 [some (vR 96 0), some (vI l1), some (vI l2), some (vI (l3 + 1))] [] σ)) else retZ 0 σ) :=
  U_at (fun pc => Nat.beq pc 2) 400 rfl
/-! M.ways -/
set_option maxRecDepth 100000 in
theorem c_M_ways (σ : St) (a1 : Int32) : Cc 283 0 [vR 96 0, vI a1] σ = cI (Cc 244 0 [vR 96 0, vL (Int32.toInt64 a1)] (sI σ 96 0 0 0)) (fun x2 σ1 => if x2 = 0 then some (some (vI (-2)), σ1) else Vv 283 0 21 [some (vR 96 0), some (vI a1), some (vI 0), some (vI 0)] [] σ1) :=
  (Cc_eq _ _ _ _).trans (U_at (fun pc => Nat.beq pc 21) 400 rfl)
set_option maxRecDepth 100000 in
theorem v_M_ways_21 (σ : St) (l1 l2 l3 : Int32) : Vv 283 0 21 [some (vR 96 0), some (vI l1), some (vI l2), some (vI l3)] [] σ = cI (Cc 240 0 [vR 96 0] σ) (fun x2 σ1 => if l3 < x2 then cI (Cc 282 0 [vR 96 0, vI l1, vI l3] σ1) (fun x4 σ3 => if x4 = 0 then Vv 283 0 21 [some (vR 96 0), some (vI l1), some (vI (l2 ||| (0 : Int32))), some (vI (l3 + 1))] [] σ3 else Vv 283 0 21 [some (vR 96 0), some (vI l1), some (vI (l2 ||| ((1 : Int32) <<< (l3 &&& 31)))), some (vI (l3 + 1))] [] σ3) else some (some (vI l2), σ1)) :=
  U_at (fun pc => Nat.beq pc 21) 400 rfl
/-! M.sees -/
set_option maxRecDepth 100000 in
theorem c_M_sees (σ : St) (a1 : Int32) : Cc 284 0 [vR 96 0, vI a1] σ = cI (Cc 244 0 [vR 96 0, vL (Int32.toInt64 a1)] (sI σ 96 0 0 0)) (fun x2 σ1 => if x2 = 0 then some (some (vI (-2)), σ1) else cV (Cc 262 0 [vR 96 0] σ1) (fun σ3 => ix a1 6 (fun k4 => some (some (vI (gI σ3 3489 0 k4)), σ3)))) :=
  (Cc_eq _ _ _ _).trans (U_at (fun pc => false) 400 rfl)
/-! M.fromOf -/
set_option maxRecDepth 100000 in
theorem c_M_fromOf (σ : St) (a1 : Int32) : Cc 285 0 [vR 96 0, vI a1] σ = Vv 285 0 4 [some (vR 96 0), some (vI a1), some (vI 0), some (vI 0)] [] σ :=
  (Cc_eq _ _ _ _).trans (U_at (fun pc => Nat.beq pc 4) 400 rfl)
set_option maxRecDepth 100000 in
theorem v_M_fromOf_4 (σ : St) (l1 l2 l3 : Int32) : Vv 285 0 4 [some (vR 96 0), some (vI l1), some (vI l2), some (vI l3)] [] σ = cI (Cc 240 0 [vR 96 0] σ) (fun x2 σ1 => if l3 < x2 then ix l3 6 (fun k3 => cI (Cc 252 0 [vI (gI σ1 3489 0 k3), vI l1] σ1) (fun x5 σ4 => if x5 = 0 then Vv 285 0 4 [some (vR 96 0), some (vI l1), some (vI (l2 ||| (0 : Int32))), some (vI (l3 + 1))] [] σ4 else Vv 285 0 4 [some (vR 96 0), some (vI l1), some (vI (l2 ||| ((1 : Int32) <<< (l3 &&& 31)))), some (vI (l3 + 1))] [] σ4)) else some (some (vI l2), σ1)) :=
  U_at (fun pc => Nat.beq pc 4) 400 rfl
/-! M.from -/
set_option maxRecDepth 100000 in
theorem c_M_from (σ : St) (a1 : Int32) : Cc 286 0 [vR 96 0, vI a1] σ = cI (Cc 245 0 [vR 96 0, vL (Int32.toInt64 a1)] (sI σ 96 0 0 0)) (fun x2 σ1 => if x2 = 0 then some (some (vI (-2)), σ1) else cV (Cc 262 0 [vR 96 0] σ1) (fun σ3 => cI (Cc 285 0 [vR 96 0, vI a1] σ3) (fun x5 σ4 => some (some (vI x5), σ4)))) :=
  (Cc_eq _ _ _ _).trans (U_at (fun pc => false) 400 rfl)
/-! M.hides -/
set_option maxRecDepth 100000 in
theorem c_M_hides (σ : St) (a1 a2 : Int32) : Cc 287 0 [vR 96 0, vI a1, vI a2] σ = cI (Cc 244 0 [vR 96 0, vL (Int32.toInt64 a1)] (sI σ 96 0 0 0)) (fun x2 σ1 => if x2 = 0 then some (some (vI (-2)), σ1) else cI (Cc 245 0 [vR 96 0, vL (Int32.toInt64 a2)] σ1) (fun x4 σ3 => if x4 = 0 then some (some (vI (-2)), σ3) else cV (Cc 259 0 [vR 96 0] σ3) (fun σ5 => cI (Cc 257 0 [vR 96 0, vI a1, vI a2] σ5) (fun x7 σ6 => some (some (vI x7), σ6))))) :=
  (Cc_eq _ _ _ _).trans (U_at (fun pc => false) 400 rfl)
/-! M.worth -/
set_option maxRecDepth 100000 in
theorem c_M_worth (σ : St) (a1 : Int32) : Cc 288 0 [vR 96 0, vI a1] σ = cI (Cc 244 0 [vR 96 0, vL (Int32.toInt64 a1)] (sI σ 96 0 0 0)) (fun x2 σ1 => if x2 = 0 then some (some (vI (-2)), σ1) else cV (Cc 262 0 [vR 96 0] σ1) (fun σ3 => cI (Cc 261 0 [vR 96 0, vI a1] σ3) (fun x5 σ4 => some (some (vI x5), σ4)))) :=
  (Cc_eq _ _ _ _).trans (U_at (fun pc => false) 400 rfl)
