/-! TREES: there is one just where the letters are made -/
/-- the names that make the letters from i up to j by so many rounds -/
def gj_rd (G : gm_G) (z : Int) (t : Int → Int) (i j : Int) : Nat → Int → Prop
  | 0, _ => False
  | h + 1, n => gj_rd G z t i j h n ∨ ∃ r, 0 ≤ r ∧ r < gm_R G ∧ gm_o G r = n ∧ gt_row G z t (fun n p q => gt_M G z t n p q ∧ (p = i → q = j → gj_rd G z t i j h n)) r (gm_s G r) i j
section G24
variable {G : gm_G} {z : Int} {t : Int → Int} {i j : Int}
theorem gj_rd_up : ∀ (a b : Nat) (n : Int), gj_rd G z t i j a n → gj_rd G z t i j (a + b) n
  | _, 0, _, h => h
  | a, b + 1, n, h => Or.inl (gj_rd_up a b n h)
theorem gj_rd_row {r : Int} : ∀ (d : Nat) (q : Int), gt_rw (gt_pm G z t (fun n p q => gt_M G z t n p q ∧ (p = i → q = j → ∃ h, gj_rd G z t i j h n)) r) d i q → ∃ h, gt_rw (gt_pm G z t (fun n p q => gt_M G z t n p q ∧ (p = i → q = j → gj_rd G z t i j h n)) r) d i q
  | 0, _, e => ⟨0, e⟩
  | d + 1, q, ⟨p, h1, h2⟩ => by
    obtain ⟨a, ha⟩ := gj_rd_row d p h1
    have up : ∀ b, gt_rw (gt_pm G z t (fun n p q => gt_M G z t n p q ∧ (p = i → q = j → gj_rd G z t i j (a + b) n)) r) d i p := fun b => gt_rw_mono d i p (fun e p q _ _ => gt_pm_mono (fun _ y => ⟨y.1, fun y1 y2 => gj_rd_up a b _ (y.2 y1 y2)⟩)) ha
    rcases h2 with h2 | ⟨hn, m, h2⟩
    · exact ⟨a, p, ha, Or.inl h2⟩
    · by_cases c : p = i ∧ q = j
      · obtain ⟨b, hb⟩ := h2 c.1 c.2
        refine ⟨a + b, p, up b, Or.inr ⟨hn, m, fun _ _ => ?_⟩⟩
        have := gj_rd_up b a _ hb
        rw [Nat.add_comm] at this
        exact this
      · exact ⟨a, p, ha, Or.inr ⟨hn, m, fun y1 y2 => absurd ⟨y1, y2⟩ c⟩⟩
theorem gj_rd_M {n : Int} (h : gt_M G z t n i j) : ∃ h, gj_rd G z t i j h n := by
  have h2 := h (fun n p q => gt_M G z t n p q ∧ (p = i → q = j → ∃ h, gj_rd G z t i j h n)) (fun r p q r0 r1 p0 p1 w => by
    have w2 := gt_row_mono (B := gt_M G z t) (fun _ _ _ _ _ _ y => y.1) w
    refine ⟨gt_M_cl r p q r0 r1 p0 p1 w2, fun ep eq => ?_⟩
    rw [ep, eq] at w
    obtain ⟨a, ha⟩ := gj_rd_row (gm_s G r).toNat j w
    exact ⟨a + 1, Or.inr ⟨r, r0, r1, rfl, ha⟩⟩)
  exact h2.2 rfl rfl
theorem gj_pos {x : Int} (h : 0 ≤ x) (h2 : x ≠ 0) : 1 ≤ x := by omega
/-- a cut whose parts all have trees: the row has -/
theorem gj_R_pos (hG : gm_ok G) {r : Int} {B : Int → Prop} {c : Int → Int} (r0 : 0 ≤ r) (r1 : r < gm_R G) (cs : c (gm_s G r) = j) (le : ∀ e, 0 ≤ e → e < gm_s G r → c e ≤ c (e + 1)) (lej : ∀ e, 0 ≤ e → e ≤ gm_s G r → c e ≤ j) (hc : ∀ e, 0 ≤ e → e < gm_s G r → 1 ≤ gk_own G z t (gk_C G z t) r i j B e (c e) (c (e + 1))) : ∀ (m : Nat) (d : Int), 0 ≤ d → d + m = gm_s G r → 1 ≤ gk_R G z t r i j B d (c d)
  | 0, d, d0, e => by
    have ed : d = gm_s G r := by omega
    rw [ed, gk_R_e, if_pos cs]
    decide
  | m + 1, d, d0, e => by
    have ih := gj_R_pos hG r0 r1 cs le lej hc m (d + 1) (by omega) (by omega)
    have l1 := le d d0 (by omega)
    have l2 := lej (d + 1) (by omega) (by omega)
    have ow := hc d d0 (by omega)
    rw [gk_R_s d0 (by omega)]
    have nn : ∀ x : Int, 0 ≤ x → x < (((j + 1 - c d).toNat : Nat) : Int) → 0 ≤ min (gk_own G z t (gk_C G z t) r i j B d (c d) (c d + x) * gk_R G z t r i j B (d + 1) (c d + x)) 1000000000000000000 := fun x _ _ => by
      have a := gk_own_nn (G := G) (z := z) (t := t) (T := gk_C G z t) (fun n i j A => (gk_C_b hG n i j A).1) r i j B d (c d) (c d + x)
      have b := (gk_R_b hG (z := z) (t := t) (i := i) (j := j) (B := B) (d := d + 1) (k := c d + x) r0 r1 (by omega)).1
      have := Int.mul_nonneg a b
      omega
    have g := gsum_ge (j + 1 - c d).toNat nn (c (d + 1) - c d) (by omega) (by omega)
    have ex : c d + (c (d + 1) - c d) = c (d + 1) := by omega
    rw [ex] at g
    have pr : 1 ≤ gk_own G z t (gk_C G z t) r i j B d (c d) (c (d + 1)) * gk_R G z t r i j B (d + 1) (c (d + 1)) := by
      have := Int.mul_le_mul ow ih (by decide) (by omega)
      omega
    omega
theorem gj_rd_C (hG : gm_ok G) (z8 : z ≤ 8) (i0 : 0 ≤ i) (ij : i ≤ j) (jz : j ≤ z) (hw : ∀ n p q, i ≤ p → p ≤ q → q ≤ j → ¬ (p = i ∧ q = j) → gt_M G z t n p q → gk_C G z t n p q (fun _ => False) ≠ 0) : ∀ (h : Nat) (n : Int), gj_rd G z t i j h n → ∀ B : Int → Prop, (∀ x, gj_rd G z t i j h x → ¬ B x) → gk_C G z t n i j B ≠ 0
  | 0, _, h, _, _ => False.elim h
  | h + 1, n, hn, B, hB => by
    by_cases old : gj_rd G z t i j h n
    · exact gj_rd_C hG z8 i0 ij jz hw h n old B (fun x y => hB x (Or.inl y))
    rcases hn with hn | ⟨r, r0, r1, ro, row⟩
    · exact absurd hn old
    have rowM := gt_row_mono (B := gt_M G z t) (fun _ _ _ _ _ _ y => y.1) row
    have m := gt_M_cl r i j r0 r1 i0 (by omega) rowM
    rw [ro] at m
    have rg := gt_M_rng hG m
    have so := (hG.2.2.2.2.1 r r0 r1).2.2.1
    have es : (((gm_s G r).toNat : Nat) : Int) = gm_s G r := by omega
    obtain ⟨c, c0, cs, hc⟩ := gj_cut (fun n p q (y : gt_M G z t n p q ∧ (p = i → q = j → gj_rd G z t i j h n)) => (gt_M_rng hG y.1).2.2.2.1) (gm_s G r).toNat j row
    rw [es] at cs hc
    have up : ∀ (a b : Nat), ((a + b : Nat) : Int) ≤ gm_s G r → c a ≤ c ((a + b : Nat) : Int) := by
      intro a b
      induction b with
      | zero => exact fun _ => Int.le_refl _
      | succ b ih =>
        intro hh
        have h1 := ih (by omega)
        have h2 := (hc ((a + b : Nat) : Int) (by omega) (by omega)).2
        have e : (((a + (b + 1) : Nat)) : Int) = ((a + b : Nat) : Int) + 1 := by omega
        rw [e]
        omega
    have rng : ∀ e : Int, 0 ≤ e → e ≤ gm_s G r → i ≤ c e ∧ c e ≤ j := fun e e0 e1 => by
      have a := up 0 e.toNat (by omega)
      have b := up e.toNat ((gm_s G r).toNat - e.toNat) (by omega)
      have x0 : ((0 + e.toNat : Nat) : Int) = e := by omega
      have x1 : ((e.toNat + ((gm_s G r).toNat - e.toNat) : Nat) : Int) = gm_s G r := by omega
      have x2 : ((e.toNat : Nat) : Int) = e := by omega
      have x3 : (((0 : Nat)) : Int) = 0 := rfl
      rw [x0, x3, c0] at a
      rw [x1, x2, cs] at b
      exact ⟨a, b⟩
    have pos := gj_R_pos hG (i := i) (B := fun x => B x ∨ x = n) r0 r1 cs (fun e e0 e1 => (hc e e0 e1).2) (fun e e0 e1 => (rng e e0 e1).2) (fun e e0 e1 => by
      rcases (hc e e0 e1).1 with ⟨n1, eq, ez, hb⟩ | ⟨n1, y⟩
      · unfold gk_own
        rw [if_pos n1, gt_ib_t ⟨eq, ez, hb⟩]
        decide
      · unfold gk_own
        rw [if_neg n1]
        by_cases q : c e = i ∧ c (e + 1) = j
        · rw [if_pos q]
          refine gj_pos (gk_C_b hG _ _ _ _).1 (gj_rd_C hG z8 i0 ij jz hw h _ (y.2 q.1 q.2) _ (fun x hx => ?_))
          rintro (z1 | z1)
          · exact hB x (Or.inl hx) z1
          · rw [z1] at hx
            exact old hx
        · rw [if_neg q]
          exact gj_pos (gk_C_b hG _ _ _ _).1 (hw _ _ _ (rng e e0 (by omega)).1 (hc e e0 e1).2 (rng (e + 1) (by omega) (by omega)).2 q y.1)) (gm_s G r).toNat 0 (Int.le_refl _) (by omega)
    rw [c0] at pos
    rw [gk_eq hG rg.1 rg.2.1 ij (by omega), gt_if_t ⟨hB n (Or.inr ⟨r, r0, r1, ro, row⟩), m⟩]
    have nn : ∀ x : Int, 0 ≤ x → x < (((gm_R G).toNat : Nat) : Int) → 0 ≤ gt_if (gm_o G x = n) (gk_R G z t x i j (fun x => B x ∨ x = n) 0 i) := fun x x0 x1 => by
      by_cases q : gm_o G x = n
      · rw [gt_if_t q]
        exact (gk_R_b hG x0 (by omega) (Int.le_refl _)).1
      · rw [gt_if_f q]
        exact Int.le_refl _
    have g := gsum_ge (gm_R G).toNat nn r r0 (by omega)
    rw [gt_if_t ro] at g
    omega
theorem gj_C_ne (hG : gm_ok G) (z8 : z ≤ 8) : ∀ (w : Nat) (n i j : Int), j - i ≤ w → gt_M G z t n i j → gk_C G z t n i j (fun _ => False) ≠ 0
  | 0, n, i, j, hw, h => by
    have rg := gt_M_rng hG h
    obtain ⟨a, ha⟩ := gj_rd_M h
    exact gj_rd_C hG z8 rg.2.2.1 rg.2.2.2.1 rg.2.2.2.2 (fun n p q a b c d _ => absurd ⟨by omega, by omega⟩ d) a n ha _ (fun _ _ y => y)
  | w + 1, n, i, j, hw, h => by
    have rg := gt_M_rng hG h
    obtain ⟨a, ha⟩ := gj_rd_M h
    exact gj_rd_C hG z8 rg.2.2.1 rg.2.2.2.1 rg.2.2.2.2 (fun n p q a b c d m => gj_C_ne hG z8 w n p q (by omega) m) a n ha _ (fun _ _ y => y)
theorem gj_trees (hG : gm_ok G) (z8 : z ≤ 8) {n : Int} : gk_C G z t n i j (fun _ => False) ≠ 0 ↔ gt_M G z t n i j := ⟨gk_C_M, fun h => gj_C_ne hG z8 (j - i).toNat n i j (by omega) h⟩
end G24
