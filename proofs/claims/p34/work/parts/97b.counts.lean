/-! TREES: the model's counts -/
theorem gk_R_row {G : gm_G} (hG : gm_ok G) {z : Int} {t : Int → Int} {r i j : Int} {B : Int → Prop} (r0 : 0 ≤ r) (r1 : r < gm_R G) : ∀ (n : Nat) (k : Int), (n : Int) ≤ gm_s G r → gt_row G z t (gt_M G z t) r (gm_s G r - n) i k → gk_W (gk_own G z t (gk_C G z t) r i j B) (gm_s G r) j n k ≠ 0 → gt_row G z t (gt_M G z t) r (gm_s G r) i j
  | 0, k, _, w, h => by
    have kj : k = j := Classical.byContradiction (fun y => h (if_neg y))
    have e : gm_s G r - ((0 : Nat) : Int) = gm_s G r := by omega
    rw [e, kj] at w
    exact w
  | n + 1, k, hn, w, h => by
    have h2 : min (gsum (fun x => min (gk_own G z t (gk_C G z t) r i j B (gm_s G r - ((n : Int) + 1)) k (k + x) * gk_W (gk_own G z t (gk_C G z t) r i j B) (gm_s G r) j n (k + x)) 1000000000000000000) (j + 1 - k).toNat) 1000000000000000000 ≠ 0 := h
    have ex : ∃ x, 0 ≤ x ∧ x < ((j + 1 - k).toNat : Int) ∧ gk_own G z t (gk_C G z t) r i j B (gm_s G r - ((n : Int) + 1)) k (k + x) * gk_W (gk_own G z t (gk_C G z t) r i j B) (gm_s G r) j n (k + x) ≠ 0 := Classical.byContradiction (fun y => h2 (by
      rw [gsum_z _ (fun x x0 x1 => by
        have : gk_own G z t (gk_C G z t) r i j B (gm_s G r - ((n : Int) + 1)) k (k + x) * gk_W (gk_own G z t (gk_C G z t) r i j B) (gm_s G r) j n (k + x) = 0 := Classical.byContradiction (fun u => y ⟨x, x0, x1, u⟩)
        (try dsimp only)
        rw [this]
        decide)]
      decide))
    obtain ⟨x, x0, x1, y⟩ := ex
    have o : gk_own G z t (gk_C G z t) r i j B (gm_s G r - ((n : Int) + 1)) k (k + x) ≠ 0 := fun u => y (by rw [u, Int.zero_mul])
    have w2 : gk_W (gk_own G z t (gk_C G z t) r i j B) (gm_s G r) j n (k + x) ≠ 0 := fun u => y (by rw [u, Int.mul_zero])
    refine gk_R_row hG r0 r1 n (k + x) (by omega) ?_ w2
    have e : gm_s G r - (n : Int) = (gm_s G r - ((n + 1 : Nat) : Int)) + 1 := by omega
    rw [e, gt_row_s (by omega)]
    refine ⟨k, w, ?_⟩
    have e2 : gm_s G r - ((n + 1 : Nat) : Int) = gm_s G r - ((n : Int) + 1) := by omega
    rw [e2]
    exact gk_own_pm (fun n i j A => gk_C_M) o
theorem gk_eq2 {G : gm_G} (hG : gm_ok G) {z : Int} {t : Int → Int} {n i j : Int} {A : Int → Prop} (n0 : 0 ≤ n) (n1 : n < gm_N G) (i0 : 0 ≤ i) (ij : i ≤ j) (jz : j ≤ z) (w : j - i ≤ 8) (a : ¬ A n) : gk_C G z t n i j A = min (gsum (fun r => gt_if (gm_o G r = n) (gk_R G z t r i j (fun x => A x ∨ x = n) 0 i)) (gm_R G).toNat) 1000000000000000000 := by
  rw [gk_eq hG n0 n1 ij w]
  by_cases mm : gt_M G z t n i j
  · exact gt_if_t ⟨a, mm⟩
  · rw [gt_if_f (fun y => mm y.2), gsum_z _ (fun r r0 r1 => ?_)]
    · decide
    by_cases ro : gm_o G r = n
    · rw [gt_if_t ro]
      have p3 := (hG.2.2.2.2.1 r r0 (by omega)).2.2.1
      refine Classical.byContradiction (fun y => mm ?_)
      have row := gk_R_row hG (z := z) (t := t) (r := r) (i := i) (j := j) (B := fun x => A x ∨ x = n) r0 (by omega) (gm_s G r - 0).toNat i (by omega) (by
        have e : gm_s G r - ((gm_s G r - 0).toNat : Int) = 0 := by omega
        rw [e]
        rfl) y
      rw [← ro]
      exact gt_M_cl r i j r0 (by omega) i0 (by omega) row
    · rw [gt_if_f ro]
