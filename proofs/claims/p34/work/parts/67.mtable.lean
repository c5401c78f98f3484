/-- 1 where P holds, else 0 -/
noncomputable def gt_ib (P : Prop) : Int := @ite Int P (Classical.propDecidable P) 1 0
theorem gt_ib_t {P : Prop} (h : P) : gt_ib P = 1 := if_pos h
theorem gt_ib_f {P : Prop} (h : ¬ P) : gt_ib P = 0 := if_neg h
theorem gt_ib_01 {P : Prop} : gt_ib P = 0 ∨ gt_ib P = 1 := by
  by_cases h : P
  · exact Or.inr (gt_ib_t h)
  · exact Or.inl (gt_ib_f h)
theorem gt_ib_cg {P Q : Prop} (h : P ↔ Q) : gt_ib P = gt_ib Q := by
  by_cases c : P
  · rw [gt_ib_t c, gt_ib_t (h.mp c)]
  · rw [gt_ib_f c, gt_ib_f (fun y => c (h.mpr y))]
/-- where the rules of each name begin, and how many they are -/
def gm_rg (G : gm_G) (f k : Int → Int) : Prop := ∀ n, 0 ≤ n → n < gm_N G → 0 ≤ f n ∧ 0 ≤ k n ∧ f n + k n ≤ gm_R G ∧ ∀ r, 0 ≤ r → r < gm_R G → (gm_o G r = n ↔ f n ≤ r ∧ r < f n + k n)
