/-! THE CLASS: images and acts -/
theorem cl_of {X : Nat → Nat → Nat → Bool} (hX : ∀ t i j, rfS t i j = true → X t i j = false) {σ σ' : St} (h : Fr X σ σ') : Fr clS σ σ' := h.up (fun t i j hq => by
  refine hX t i j ?_
  unfold clS at hq
  cases hw : rfS t i j
  · rw [hw] at hq; cases hq
  · rfl)
theorem rfC_rf (a t i j : Nat) (hr : rfS t i j = true) : rfC a t i j = false := by
  unfold rfS at hr
  simp only [Bool.or_eq_true] at hr
  have hnot : ∀ t', Nat.beq t t' = true → rfC a t' i j = false → rfC a t i j = false := fun t' h1 h2 => by
    rw [Nat.eq_of_beq_eq_true h1, h2]
  rcases hr with (((((((((((((((((((((((h | h) | h) | h) | h) | h) | h) | h) | h) | h) | h) | h) | h) | h) | h) | h) | h) | h) | h) | h) | h) | h) | h) | h) | h <;> exact hnot _ h rfl
theorem laS_rf (t i j : Nat) (hr : rfS t i j = true) : laS t i j = false := by
  unfold rfS at hr
  simp only [Bool.or_eq_true] at hr
  have hnot : ∀ t', Nat.beq t t' = true → laS t' i j = false → laS t i j = false := fun t' h1 h2 => by
    rw [Nat.eq_of_beq_eq_true h1, h2]
  rcases hr with (((((((((((((((((((((((h | h) | h) | h) | h) | h) | h) | h) | h) | h) | h) | h) | h) | h) | h) | h) | h) | h) | h) | h) | h) | h) | h) | h) | h <;> exact hnot _ h rfl
/-- the roof and what is looked at anew -/
def mvS (t i j : Nat) : Bool := rfC 0 t i j || laS t i j
theorem mv_cl {σ σ' : St} (h : Fr mvS σ σ') : Fr clS σ σ' := cl_of (fun t i j hr => by
  unfold mvS
  rw [rfC_rf 0 t i j hr, laS_rf t i j hr]; rfl) h
theorem rf_mv {σ σ' : St} (h : Fr (rfC 0) σ σ') : Fr mvS σ σ' := h.up (fun t i j hq => by
  unfold mvS at hq
  rw [Bool.or_eq_false_iff] at hq
  exact hq.1)
theorem la_mv {σ σ' : St} (h : Fr laS σ σ') : Fr mvS σ σ' := h.up (fun t i j hq => by
  unfold mvS at hq
  rw [Bool.or_eq_false_iff] at hq
  exact hq.2)
theorem HC_rfo {σ σ' : St} {a b : Nat} {R : RF} (h : HC σ b R) (hab : b ≠ a) (hf : Fr (rfC a) σ σ') : HC σ' b R := h.fr hf (fun j => rfC_o hab j)
theorem HC_mv {σ σ' : St} {b : Nat} {R : RF} (h : HC σ b R) (hb : b ≠ 0) (hf : Fr mvS σ σ') : HC σ' b R := h.fr hf (fun j => by
  obtain ⟨q1, q2, q3, q4, q5, q6, q7⟩ := rfC_o hb j
  unfold mvS
  rw [q1, q3, q4, q5, q6, q7]
  refine ⟨rfl, fun q hq => ?_, rfl, rfl, rfl, rfl, rfl⟩
  obtain ⟨p1, p2, p3⟩ := q2 q hq
  rw [p1, p2, p3]
  exact ⟨rfl, rfl, rfl⟩)
theorem SK_i {X : Nat → Nat → Nat → Bool} {σ σ' : St} {K : KT} (h : SK σ K) (hf : Fr X σ σ') (hx : ∀ i j, X 80 i j = false ∧ X 30906 i j = false) : SK σ' K := fun s hs => by
  obtain ⟨h1, h2, h3, h4⟩ := h s hs
  refine ⟨h1, h2, fun q => (hf.i (hx _ _).1).trans (h3 q), fun q => ?_⟩
  obtain ⟨g0, g1, g2, g3⟩ := h4 q
  exact ⟨(hf.i (hx _ _).1).trans g0, (hf.i (hx _ _).1).trans g1, (hf.i (hx _ _).1).trans g2, fun k hk => (hf.l (hx _ _).2).trans (g3 k hk)⟩
theorem TC_i {X : Nat → Nat → Nat → Bool} {σ σ' : St} {t : TP} (h : TC σ t) (hf : Fr X σ σ') (hx : ∀ i j, X 40 i j = false ∧ X 358555 i j = false) : TC σ' t := ⟨(hf.i (hx _ _).1).trans h.1, h.2.1, fun i hi => ⟨(hf.i (hx _ _).2).trans (h.2.2.1 i hi).1, (h.2.2.1 i hi).2⟩, (hf.i (hx _ _).1).trans h.2.2.2.1, (hf.i (hx _ _).1).trans h.2.2.2.2⟩
theorem JC_mv {σ σ' : St} {S : AZ} {R : RF} (h : JC σ S) (hf : Fr mvS σ σ') (hv : HV σ' R) : JC σ' (R, zI S, zk S, zK S, zT S) :=
  ⟨hv, fun k hk => ⟨(hf.i rfl).trans (h.2.1 k hk).1, fun q => ⟨((h.2.1 k hk).2 q).1, HC_mv ((h.2.1 k hk).2 q).2 (by omega) hf⟩⟩, SK_i h.2.2.1 hf (fun _ _ => ⟨rfl, rfl⟩), TC_i h.2.2.2 hf (fun _ _ => ⟨rfl, rfl⟩)⟩
theorem u_image {σ : St} {S : AZ} (h : JC σ S) (a1 : Int32) : RCS 177 [vI a1] σ (vI (Z_image S a1).1) (Z_image S a1).2 := by
  unfold Z_image RCS
  rw [c_H_image, show (3 : Int32) = nI 3 from rfl, inB_if a1 (by omega)]
  cases hb : inB a1 3
  · exact ⟨_, rfl, Fr.rf, h⟩
  · obtain ⟨k, hk, rfl⟩ := inB_e (by omega) hb
    obtain ⟨σ2, c2, f2, r2⟩ := k_copyRoof (a := 2 + k) h.1.1.2 h.1.1.1.1 (by omega)
    rw [cond_true, cond_true, cl_n (by omega), ix_nI hk (by omega), c2, cV_s, if_pos (by decide), ix_nI hk (by omega)]
    have hk0 : Fr (fun t _ _ => Nat.beq t 1708) σ2 (sI σ2 1708 0 k 1) := Fr.rf.sI rfl
    have oth : ∀ {b : Nat} {R : RF}, HC σ2 b R → HC (sI σ2 1708 0 k 1) b R := fun hc => hc.fr hk0 (fun j => ⟨rfl, fun _ _ => ⟨rfl, rfl, rfl⟩, rfl, rfl, rfl, rfl, rfl⟩)
    have hv : HV (sI σ2 1708 0 k 1) (zR S) := ⟨⟨h.1.1.1, oth (HC_rfo h.1.1.2 (by omega) f2)⟩, fun p hp => ⟨(hk0.i rfl).trans ((f2.i rfl).trans (h.1.2.1 p hp).1), (hk0.i rfl).trans ((f2.i rfl).trans (h.1.2.1 p hp).2)⟩, fun z hz l hl => (hk0.i rfl).trans ((f2.i rfl).trans (h.1.2.2.1 z hz l hl)), h.1.2.2.2⟩
    refine ⟨_, rfl, (cl_of (rfC_rf _) f2).tr (Fr.rf.sI rfl), hv, fun j hj => ?_, SK_i (SK_i h.2.2.1 f2 (fun _ _ => ⟨rfl, rfl⟩)) hk0 (fun _ _ => ⟨rfl, rfl⟩), TC_i (TC_i h.2.2.2 f2 (fun _ _ => ⟨rfl, rfl⟩)) hk0 (fun _ _ => ⟨rfl, rfl⟩)⟩
    show gI _ 1708 0 j = tv (if j = k then true else zk S j) ∧ ((if j = k then true else zk S j) = true → WF (if j = k then zR S else zI S j) ∧ HC _ (2 + j) (if j = k then zR S else zI S j))
    by_cases hjk : j = k
    · subst hjk
      rw [if_pos rfl, if_pos rfl, gI_sIs]
      exact ⟨rfl, fun _ => ⟨h.1.1.1, oth r2⟩⟩
    · rw [if_neg hjk, if_neg hjk, gI_sIj hjk, f2.i rfl]
      exact ⟨(h.2.1 j hj).1, fun q => ⟨((h.2.1 j hj).2 q).1, oth (HC_rfo ((h.2.1 j hj).2 q).2 (by omega) f2)⟩⟩
theorem u_back {σ : St} {S : AZ} (h : JC σ S) (a1 : Int32) : RCS 178 [vI a1] σ (vI (Z_back S a1).1) (Z_back S a1).2 := by
  unfold Z_back RCS
  rw [c_H_back, show (3 : Int32) = nI 3 from rfl, inB_if a1 (by omega)]
  cases hb : inB a1 3
  · exact ⟨_, rfl, Fr.rf, h⟩
  · obtain ⟨k, hk, rfl⟩ := inB_e (by omega) hb
    rw [cond_true, cond_true, cl_n (by omega), ix_nI hk (by omega), (h.2.1 k hk).1, tv_ite]
    cases hq : zk S k
    · exact ⟨_, rfl, Fr.rf, h⟩
    · obtain ⟨w1, w2⟩ := (h.2.1 k hk).2 hq
      obtain ⟨σ2, c2, f2, r2⟩ := k_copyRoof (a := 0) w2 w1.1 (by omega)
      obtain ⟨σ3, c3, f3, v3⟩ := h_lookAnew ⟨w1, r2⟩
      have hF := (rf_mv f2).tr (la_mv f3)
      rw [cond_true, cond_true]
      exact ⟨σ3, by rw [ix_nI hk (by omega), c2, cV_s, c3, cV_s], mv_cl hF, JC_mv h hF v3⟩
/-! acts -/
theorem HC_RA {σ σ' : St} {R : RF} (h : HC σ 0 R) {k a b y : Nat} (hf : Fr (aqC 0) σ σ') (h8 : gI σ' 0 0 3 = nI (nA R + 1)) (hj : ∀ i, i < nA R → gI σ' 15489 0 i = gI σ 15489 0 i ∧ gI σ' 15497 0 i = gI σ 15497 0 i ∧ gI σ' 15505 0 i = gI σ 15505 0 i)
    (hk : gI σ' 15489 0 (nA R) = nI a ∧ (k = 1 → gI σ' 15505 0 (nA R) = -1) ∧ (k ≠ 1 → gI σ' 15497 0 (nA R) = nI b ∧ gI σ' 15505 0 (nA R) = nI y)) : HC σ' 0 (RA R k a b y) := by
  obtain ⟨h1, h2, h3, h4, h5, h6, h7, h8', h9, h10, h11, h12⟩ := h
  have e : ∀ j, j ≠ 8 → RA R k a b y 0 j = R 0 j := fun j hj => by rw [RA_0, if_neg hj]
  have ex := fun x (h0 : x ≠ 0) (h1 : x ≠ 12) (h2 : x ≠ 13) (h3 : x ≠ 14) (h4 : x ≠ 15) => funext (fun j => RA_x R k a b y h0 h1 h2 h3 h4 j)
  have ea : ∀ {q n : Nat} {f g : Nat → Nat}, PR σ q n f g → PR σ' q n f g := fun hp => ⟨(hf.i rfl).trans hp.1, fun i hi => ⟨(hf.i rfl).trans (hp.2 i hi).1, (hf.i rfl).trans (hp.2 i hi).2⟩⟩
  refine ⟨?_, ?_, ?_, ?_, ?_, ?_, ?_, ?_, ?_, ?_, ?_, ?_⟩
  · rw [hf.i rfl, h1]; exact congrArg nI (e 0 (by omega)).symm
  · rw [hf.i rfl, h2]; exact congrArg nI (e 1 (by omega)).symm
  · rw [hf.i rfl, h3]; exact congrArg nI (e 2 (by omega)).symm
  · rw [hf.i rfl, h4]; exact congrArg nI (e 9 (by omega)).symm
  · show PR σ' (5 * 0) (RA R k a b y 0 3) (RA R k a b y 1) (RA R k a b y 2)
    rw [e 3 (by omega), ex 1 (by omega) (by omega) (by omega) (by omega) (by omega), ex 2 (by omega) (by omega) (by omega) (by omega) (by omega)]
    exact ea h5
  · show PR σ' (5 * 0 + 1) (RA R k a b y 0 4) (RA R k a b y 3) (RA R k a b y 4)
    rw [e 4 (by omega), ex 3 (by omega) (by omega) (by omega) (by omega) (by omega), ex 4 (by omega) (by omega) (by omega) (by omega) (by omega)]
    exact ea h6
  · show PR σ' (5 * 0 + 2) (RA R k a b y 0 5) (RA R k a b y 6) (RA R k a b y 7)
    rw [e 5 (by omega), ex 6 (by omega) (by omega) (by omega) (by omega) (by omega), ex 7 (by omega) (by omega) (by omega) (by omega) (by omega)]
    exact ea h7
  · show PR σ' (5 * 0 + 3) (RA R k a b y 0 6) (RA R k a b y 8) (RA R k a b y 9)
    rw [e 6 (by omega), ex 8 (by omega) (by omega) (by omega) (by omega) (by omega), ex 9 (by omega) (by omega) (by omega) (by omega) (by omega)]
    exact ea h8'
  · show PR σ' (5 * 0 + 4) (RA R k a b y 0 7) (RA R k a b y 10) (RA R k a b y 11)
    rw [e 7 (by omega), ex 10 (by omega) (by omega) (by omega) (by omega) (by omega), ex 11 (by omega) (by omega) (by omega) (by omega) (by omega)]
    exact ea h9
  · intro m hm
    have hm : m < nM R := Nat.lt_of_lt_of_eq hm (e 4 (by omega))
    show gI σ' 3705 0 m = nI (RA R k a b y 5 m)
    rw [ex 5 (by omega) (by omega) (by omega) (by omega) (by omega), hf.i rfl]
    exact h10 m hm
  · rw [h8]; exact congrArg nI (show RA R k a b y 0 8 = nA R + 1 by rw [RA_0, if_pos rfl]).symm
  · intro i hi
    have hi : i < nA R + 1 := Nat.lt_of_lt_of_eq hi (show RA R k a b y 0 8 = nA R + 1 by rw [RA_0, if_pos rfl])
    show gI σ' 15489 0 i = nI (RA R k a b y 13 i) ∧ (RA R k a b y 12 i = 1 → gI σ' 15505 0 i = -1) ∧ (RA R k a b y 12 i ≠ 1 → gI σ' 15497 0 i = nI (RA R k a b y 14 i) ∧ gI σ' 15505 0 i = nI (RA R k a b y 15 i))
    by_cases hin : i = nA R
    · subst hin
      obtain ⟨r1, r2, r3, r4⟩ := RA_n R k a b y
      rw [r1, r2, r3, r4]
      exact hk
    · obtain ⟨r1, r2, r3, r4⟩ := RA_o R k a b y (i := i) (by omega)
      obtain ⟨y1, y2, y3⟩ := hj i (by omega)
      rw [r1, r2, r3, r4, y1, y2, y3]
      exact h12 i (by omega)
theorem k_act {σ : St} {R : RF} (h : K0 σ R) (hA : nA R < 30) (x y z : Int32) : ∃ σ', Cc 2 0 [vR 0 0, vI x, vI y, vI z] σ = some (none, σ') ∧ Fr (aqC 0) σ σ' ∧ gI σ' 0 0 3 = nI (nA R + 1) ∧ (∀ i, i < nA R → gI σ' 15489 0 i = gI σ 15489 0 i ∧ gI σ' 15497 0 i = gI σ 15497 0 i ∧ gI σ' 15505 0 i = gI σ 15505 0 i) ∧ gI σ' 15489 0 (nA R) = x ∧ gI σ' 15497 0 (nA R) = y ∧ gI σ' 15505 0 (nA R) = z := by
  refine ⟨_, k_addEx h.A hA x y z, (((Fr.rf.sI rfl).sI rfl).sI rfl).sI rfl, gI_sIs _ _ _ _ _, fun i hi => ⟨?_, ?_, ?_⟩, ?_, ?_, ?_⟩
  · rw [gI_sIn (by decide), gI_sIn (by decide), gI_sIn (by decide), gI_sIj (by omega)]
  · rw [gI_sIn (by decide), gI_sIn (by decide), gI_sIj (by omega), gI_sIn (by decide)]
  · rw [gI_sIn (by decide), gI_sIj (by omega), gI_sIn (by decide), gI_sIn (by decide)]
  · rw [gI_sIn (by decide), gI_sIn (by decide), gI_sIn (by decide), gI_sIs]
  · rw [gI_sIn (by decide), gI_sIn (by decide), gI_sIs]
  · rw [gI_sIn (by decide), gI_sIs]
