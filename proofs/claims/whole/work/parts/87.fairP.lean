/-! ROWS: the fairest -/
theorem rw_in : ∀ P, P < 7 → ∀ L, L < P + 1 → (rws P L 0).all (fun r => (List.range (2 ^ P)).all (fun S => cond (r.all (Nat.testBit S)) (Nat.ble L (cn (Nat.testBit S) P)) true)) = true := by decide +kernel
theorem rw_has : ∀ P, P < 7 → ∀ L, L < P + 1 → (List.range (2 ^ P)).all (fun S => cond (Nat.ble L (cn (Nat.testBit S) P)) ((rws P L 0).any (fun r => r.all (Nat.testBit S))) true) = true := by decide +kernel
theorem rws_len (P : Nat) : ∀ k u r, r ∈ rws P k u → r.length = k
  | 0, u, r, hr => by
    have : r = [] := List.mem_singleton.mp hr
    subst this
    rfl
  | k + 1, u, r, hr => by
    obtain ⟨p, hp, hr2⟩ := List.mem_flatMap.mp hr
    cases hb : Nat.testBit u p
    · rw [hb] at hr2
      obtain ⟨r', h1, h2⟩ := List.mem_map.mp hr2
      subst h2
      show r'.length + 1 = k + 1
      rw [rws_len P k _ r' h1]
    · rw [hb] at hr2
      cases hr2
