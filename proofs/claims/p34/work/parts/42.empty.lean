/-- all parts of a rule from one on, but for one that is passed by, are names of the set E -/
def gm_er (G : gm_G) (E r from_ passed : Int) : Prop := ∀ d, from_ ≤ d → d < gm_s G r → d ≠ passed → gm_n G r d ≠ -1 ∧ gb E (gm_n G r d)
theorem gm_isEmptyRow {m : gh_M} {G : gm_G} {Q : Int → Prop} (hG : gm_ok G) (hC : gm_C m G) (hE : gbs 8 (m 20 1)) {r from_ passed : Int} (r0 : 0 ≤ r) (r1 : r < gm_R G) (f0 : 0 ≤ from_) (f1 : from_ ≤ 5) (h1 : gm_er G (m 20 1) r from_ passed → Q 1) (h2 : ¬ gm_er G (m 20 1) r from_ passed → Q 0) : w_Facts_isEmptyRow r from_ passed m Q := by
  obtain ⟨_, hs0, hs1, hs2, _⟩ := hG.2.2.2.2.1 r r0 r1
  have hR := hG.2.2.2.1
  have e2 := (hC.2.2 r r0 r1).2.1
  refine ⟨fun d => from_ ≤ d ∧ d ≤ 5 ∧ ∀ k, from_ ≤ k → k < d → k < gm_s G r → k ≠ passed → gm_n G r k ≠ -1 ∧ gb (m 20 1) (gm_n G r k), fun d => (10 - d).toNat, ⟨Int.le_refl _, f1, fun k a b => by omega⟩, ?_⟩
  rintro d ⟨d0, d1, hd⟩
  unfold f_Facts_isEmptyRow_3
  rw [e2]
  refine ⟨r0, by omega, fun c => ?_, fun c => h1 (fun k a b e => hd k a (by omega) b e)⟩
  obtain ⟨k1, x1⟩ := gm_nameAt hG hC r0 r1 (d := d) (by omega) c
  refine ⟨k1, ?_⟩
  rintro _ rfl
  rw [x1]
  have hn := gm_n_rng hG r0 r1 (d := d) (by omega) c
  have hN := hG.2.1
  have tst : gm_n G r d ≠ -1 → (gh_iand_f (gh_ishr_f (m 20 1) (gm_n G r d)) 1 = 0 ↔ ¬ gb (m 20 1) (gm_n G r d)) := fun q => gb_test0 (gbs_le hE (by decide)) (by omega) (by omega)
  refine ⟨d = passed ∨ (gm_n G r d ≠ -1 ∧ gb (m 20 1) (gm_n G r d)), fun j => ⟨⟨by omega, by omega⟩, ⟨by omega, by omega, fun k a b e1 e2 => ?_⟩, ?_⟩, fun p => h2 (fun z => ?_), fun p => ?_⟩
  · by_cases q : k = d
    · subst q
      rcases j with j | j
      · exact absurd j e2
      · exact j
    · exact hd k a (by omega) e1 e2
  · show (10 - (d + 1)).toNat < (10 - d).toNat
    omega
  · obtain ⟨z1, z2⟩ := z d d0 c p.1
    rcases p.2 with q | q
    · exact z1 q
    · exact (tst z1).mp q z2
  · by_cases q : d = passed
    · exact Or.inl q
    · refine Or.inr ?_
      have p2 : ¬ (gm_n G r d = -1 ∨ gh_iand_f (gh_ishr_f (m 20 1) (gm_n G r d)) 1 = 0) := fun z => p ⟨q, z⟩
      have q1 : gm_n G r d ≠ -1 := fun z => p2 (Or.inl z)
      refine ⟨q1, ?_⟩
      by_cases q2 : gb (m 20 1) (gm_n G r d)
      · exact q2
      · exact absurd (Or.inr ((tst q1).mpr q2)) p2

