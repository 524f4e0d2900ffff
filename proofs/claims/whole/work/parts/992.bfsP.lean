/-! SHIFTS: THE REFERENCE, before the first turn -/
theorem s_since0 {σ : St} (l1 : Int32) : Vv 317 0 2 [some (vR 96 0), some (vI l1), some (vI 0), none, none] [] σ = Vv 317 0 2 [some (vR 96 0), some (vI l1), some (vI (nI 46656)), none, none] [] (pI σ 23888337 0 (fun q => if q < 46656 then 100000 else gI σ 23888337 0 q)) := by
  have hl := lpU (V := fun j => Vv 317 0 2 [some (vR 96 0), some (vI l1), some (vI (nI j)), none, none] [] (pI σ 23888337 0 (fun q => if q < j then 100000 else gI σ 23888337 0 q))) (n := 46656) (fun j hj => by
    show Vv _ _ _ _ _ _ = Vv _ _ _ _ _ _
    have e : nI j < (46656 : Int32) := nI_lt (b := 46656) hj (by omega)
    rw [v_M_laysShifts_2, if_pos e, ix_nI hj (by omega), sI_pI, nI_1]
    congr 2
    funext q
    unfold upd
    try dsimp only
    by_cases hq : q = j
    · rw [if_pos hq, if_pos (by omega)]
    · rw [if_neg hq]
      by_cases hq2 : q < j
      · rw [if_pos hq2, if_pos (by omega)]
      · rw [if_neg hq2, if_neg (by omega)])
  have e0 : pI σ 23888337 0 (fun q => if q < 0 then 100000 else gI σ 23888337 0 q) = σ := by
    have : (fun q => if q < 0 then 100000 else gI σ 23888337 0 q) = gI σ 23888337 0 := by
      funext q
      rw [if_neg (by omega)]
    rw [this, pI_id]
  have hl : Vv 317 0 2 [some (vR 96 0), some (vI l1), some (vI (nI 0)), none, none] [] (pI σ 23888337 0 (fun q => if q < 0 then 100000 else gI σ 23888337 0 q)) = Vv 317 0 2 [some (vR 96 0), some (vI l1), some (vI (nI 46656)), none, none] [] (pI σ 23888337 0 (fun q => if q < 46656 then 100000 else gI σ 23888337 0 q)) := hl
  rw [e0] at hl
  exact hl
