theorem gb_iand0 {n : Nat} {x y : Int} (hn : n ≤ 31) (hx : gbs n x) (hy : gbs n y) : gh_iand_f x y = 0 ↔ ∀ i : Int, 0 ≤ i → ¬ (gb x i ∧ gb y i) := by
  constructor
  · intro h i i0 w
    have := (gb_iand (i := i) hn hx hy.1).mpr w
    rw [h] at this
    exact gb_0 i this
  · intro h
    refine gb_ext (gbs_and hn hx hy.1) (gbs_0 n) (fun i i0 _ => ⟨fun w => absurd ((gb_iand hn hx hy.1).mp w) (h i i0), fun w => absurd w (gb_0 i)⟩)
