/-! BOTH: what one of them writes is nothing to the other -/
theorem HM_cl {σ σ' : St} {k : Nat} {R : RF} (h : HM σ k R) (hf : Fr clS σ σ') : HM σ' k R := h.fr hf (fun _ => ⟨rfl, rfl, rfl, rfl, rfl, rfl, rfl, rfl, rfl⟩)
theorem JM_cl {σ σ' : St} {S : AZ} (h : JM σ S) (hf : Fr clS σ σ') : JM σ' S := by
  obtain ⟨h1, h2, h3, h4⟩ := h
  refine ⟨⟨h1.1, HM_cl h1.2 hf⟩, fun k hk => ⟨(hf.i rfl).trans (h2 k hk).1, fun q => ⟨((h2 k hk).2 q).1, HM_cl ((h2 k hk).2 q).2 hf⟩⟩, fun s hs => ?_, ⟨(hf.i rfl).trans h4.1, h4.2.1, fun i hi => ⟨(hf.i rfl).trans (h4.2.2.1 i hi).1, (h4.2.2.1 i hi).2⟩, (hf.i rfl).trans h4.2.2.2.1, (hf.i rfl).trans h4.2.2.2.2⟩⟩
  obtain ⟨g1, g2, g3, g4⟩ := h3 s hs
  refine ⟨g1, g2, fun q => (hf.i rfl).trans (g3 q), fun q => ?_⟩
  obtain ⟨x1, x2, x3⟩ := g4 q
  exact ⟨(hf.i rfl).trans x1, (hf.i rfl).trans x2, fun k hk => (hf.l rfl).trans (x3 k hk)⟩
theorem HC_rf {σ σ' : St} {k : Nat} {R : RF} (h : HC σ k R) (hf : Fr rfS σ σ') : HC σ' k R := h.fr hf (fun _ => ⟨rfl, fun _ _ => ⟨rfl, rfl, rfl⟩, rfl, rfl, rfl, rfl, rfl⟩)
theorem JC_rf {σ σ' : St} {S : AZ} (h : JC σ S) (hf : Fr rfS σ σ') : JC σ' S := by
  obtain ⟨h1, h2, h3, h4⟩ := h
  exact ⟨⟨⟨h1.1.1, HC_rf h1.1.2 hf⟩, fun p hp => ⟨(hf.i rfl).trans (h1.2.1 p hp).1, (hf.i rfl).trans (h1.2.1 p hp).2⟩, fun z hz l hl => (hf.i rfl).trans (h1.2.2.1 z hz l hl), h1.2.2.2⟩, fun k hk => ⟨(hf.i rfl).trans (h2 k hk).1, fun q => ⟨((h2 k hk).2 q).1, HC_rf ((h2 k hk).2 q).2 hf⟩⟩, SK_i h3 hf (fun _ _ => ⟨rfl, rfl⟩), TC_i h4 hf (fun _ _ => ⟨rfl, rfl⟩)⟩
/-- both hold what S says -/
def JB (σ : St) (S : AZ) : Prop := JM σ S ∧ JC σ S
/-- one call of each, one after the other: they answer the same, and both hold the same behind it -/
theorem both {mM mC : Nat} {aM aC : List AV} {σ : St} {v : AV} {S S' : AZ} (h : JB σ S) (hM : ∀ τ, JM τ S → RMS mM aM τ v S') (hC : ∀ τ, JC τ S → RCS mC aC τ v S') :
    (∃ σ1 σ2, Cc mM 0 (vR 96 0 :: aM) σ = some (some v, σ1) ∧ Cc mC 0 (vR 88 0 :: aC) σ1 = some (some v, σ2) ∧ JB σ2 S') ∧
    (∃ σ1 σ2, Cc mC 0 (vR 88 0 :: aC) σ = some (some v, σ1) ∧ Cc mM 0 (vR 96 0 :: aM) σ1 = some (some v, σ2) ∧ JB σ2 S') := by
  refine ⟨?_, ?_⟩
  · obtain ⟨σ1, c1, f1, j1⟩ := hM σ h.1
    obtain ⟨σ2, c2, f2, j2⟩ := hC σ1 (JC_rf h.2 f1)
    exact ⟨σ1, σ2, c1, c2, JM_cl j1 f2, j2⟩
  · obtain ⟨σ1, c1, f1, j1⟩ := hC σ h.2
    obtain ⟨σ2, c2, f2, j2⟩ := hM σ1 (JM_cl h.1 f1)
    exact ⟨σ1, σ2, c1, c2, j2, JC_rf j1 f2⟩
