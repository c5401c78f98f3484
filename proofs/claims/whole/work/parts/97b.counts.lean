/-! TREES: the model's counts -/
theorem gk_R_row {G : gm_G} (hG : gm_ok G) {z : Int} {t : Int → Int} {r i j : Int} {B : Int → Prop} (r0 : 0 ≤ r) (r1 : r < gm_R G) : ∀ (n : Nat) (k : Int), (n : Int) ≤ gm_s G r → gt_row G z t (gt_M G z t) r (gm_s G r - n) i k → gk_W (gk_own G z t (gk_C G z t) r i j B) (gm_s G r) j n k ≠ 0 → gt_row G z t (gt_M G z t) r (gm_s G r) i j
  | 0, k, _, w, h => by
    have kj : k = j := Classical.byContradiction (fun y => h (if_neg y))
    have e : gm_s G r - ((0 : Nat) : Int) = gm_s G r := by omega
    rw [e, kj] at w
    exact w
  | n + 1, k, hn, w, h => by
    have h2 : min (gsum (fun x => min (gk_own G z t (gk_C G z t) r i j B (gm_s G r - ((n : Int) + 1)) k (k + x) * gk_W (gk_own G z t (gk_C G z t) r i j B) (gm_s G r) j n (k + x)) 1000000000000000000) (j + 1 - k).toNat) 1000000000000000000 ≠ 0 := h
    have ex : ∃ x, 0 ≤ x ∧ x < ((j + 1 - k).toNat : Int) ∧ gk_own G z t (gk_C G z t) r i j B (gm_s G r - ((n : Int) + 1)) k (k + x) * gk_W (gk_own G z t (gk_C G z t) r i j B) (gm_s G r) j n (k + x) ≠ 0 := Classical.byContradiction (fun y => h2 (by
      rw [gsum_z _ (fun x x0 x1 => by
        have : gk_own G z t (gk_C G z t) r i j B (gm_s G r - ((n : Int) + 1)) k (k + x) * gk_W (gk_own G z t (gk_C G z t) r i j B) (gm_s G r) j n (k + x) = 0 := Classical.byContradiction (fun u => y ⟨x, x0, x1, u⟩)
        (try dsimp only)
        rw [this]
        decide)]
      decide))
    obtain ⟨x, x0, x1, y⟩ := ex
    have o : gk_own G z t (gk_C G z t) r i j B (gm_s G r - ((n : Int) + 1)) k (k + x) ≠ 0 := fun u => y (by rw [u, Int.zero_mul])
    have w2 : gk_W (gk_own G z t (gk_C G z t) r i j B) (gm_s G r) j n (k + x) ≠ 0 := fun u => y (by rw [u, Int.mul_zero])
    refine gk_R_row hG r0 r1 n (k + x) (by omega) ?_ w2
    have e : gm_s G r - (n : Int) = (gm_s G r - ((n + 1 : Nat) : Int)) + 1 := by omega
    rw [e, gt_row_s (by omega)]
    refine ⟨k, w, ?_⟩
    have e2 : gm_s G r - ((n + 1 : Nat) : Int) = gm_s G r - ((n : Int) + 1) := by omega
    rw [e2]
    exact gk_own_pm (fun n i j A => gk_C_M) o
theorem gk_eq2 {G : gm_G} (hG : gm_ok G) {z : Int} {t : Int → Int} {n i j : Int} {A : Int → Prop} (n0 : 0 ≤ n) (n1 : n < gm_N G) (i0 : 0 ≤ i) (ij : i ≤ j) (jz : j ≤ z) (w : j - i ≤ 8) (a : ¬ A n) : gk_C G z t n i j A = min (gsum (fun r => gt_if (gm_o G r = n) (gk_R G z t r i j (fun x => A x ∨ x = n) 0 i)) (gm_R G).toNat) 1000000000000000000 := by
  rw [gk_eq hG n0 n1 ij w]
  by_cases mm : gt_M G z t n i j
  · exact gt_if_t ⟨a, mm⟩
  · rw [gt_if_f (fun y => mm y.2), gsum_z _ (fun r r0 r1 => ?_)]
    · decide
    by_cases ro : gm_o G r = n
    · rw [gt_if_t ro]
      have p3 := (hG.2.2.2.2.1 r r0 (by omega)).2.2.1
      refine Classical.byContradiction (fun y => mm ?_)
      have row := gk_R_row hG (z := z) (t := t) (r := r) (i := i) (j := j) (B := fun x => A x ∨ x = n) r0 (by omega) (gm_s G r - 0).toNat i (by omega) (by
        have e : gm_s G r - ((gm_s G r - 0).toNat : Int) = 0 := by omega
        rw [e]
        rfl) y
      rw [← ro]
      exact gt_M_cl r i j r0 (by omega) i0 (by omega) row
    · rw [gt_if_f ro]
def gk_dn (G : gm_G) (z : Int) (t : Int → Int) (m : gh_M) : Prop := ∀ k, gk_vk G z k → 0 ≤ m 105 k → ∀ r d p q, 0 ≤ r → r < gm_R G → gm_o G r = k / 20736 → 0 ≤ d → d < gm_s G r → gt_row G z t (gt_M G z t) r d (k / 256 % 81 / 9) p → p ≤ q → q ≤ k / 256 % 9 → gk_nd G z t m r d p q (k / 256 % 81 / 9) (k / 256 % 9) (gh_ior_f (k % 256) (gh_ishl_f 1 (k / 20736)))
noncomputable def gk_U (G : gm_G) (z : Int) (m : gh_M) : Nat := gct (fun k => @decide (gk_vk G z k ∧ m 105 k < 0) (Classical.propDecidable _)) 165888
theorem gk_U_x {G : gm_G} {z : Int} {m m2 : gh_M} (e : m2 105 = m 105) : gk_U G z m2 = gk_U G z m := by
  unfold gk_U
  rw [e]
theorem gk_U_lt {G : gm_G} {z : Int} {m m2 : gh_M} {k : Int} (vk : gk_vk G z k) (h1 : m 105 k < 0) (h2 : 0 ≤ m2 105 k) (h : ∀ x, x ≠ k → m2 105 x = m 105 x) : gk_U G z m2 < gk_U G z m := by
  refine gct_lt 165888 (fun x x0 x1 p => ?_) k vk.1 vk.2.1 ?_ ?_
  · have p2 := @of_decide_eq_true _ (Classical.propDecidable _) p
    refine @decide_eq_true _ (Classical.propDecidable _) ⟨p2.1, ?_⟩
    by_cases q : x = k
    · rw [q]
      exact h1
    · rw [← h x q]
      exact p2.2
  · exact @decide_eq_true _ (Classical.propDecidable _) ⟨vk, h1⟩
  · exact @decide_eq_false _ (Classical.propDecidable _) (fun y => by have := y.2; omega)
theorem gct_add {f : Int → Bool} {a : Nat} : ∀ b : Nat, gct f (a + b) = gct f a + gct (fun x => f (a + x)) b
  | 0 => rfl
  | b + 1 => by
    show gct f (a + b) + (f ((a + b : Nat) : Int)).toNat = gct f a + (gct (fun x => f (a + x)) b + (f ((a : Int) + (b : Int))).toNat)
    have e : ((a + b : Nat) : Int) = (a : Int) + (b : Int) := by omega
    rw [gct_add b, e]
    omega
theorem gct_blk {f g : Int → Bool} : ∀ k : Nat, (∀ c : Nat, c < k → (g c = true → gct (fun x => f (((256 * c : Nat) : Int) + x)) 256 ≤ 128) ∧ (g c = false → gct (fun x => f (((256 * c : Nat) : Int) + x)) 256 = 0)) → gct f (256 * k) ≤ 128 * gct g k
  | 0, _ => Nat.le_refl _
  | k + 1, h => by
    have e : 256 * (k + 1) = 256 * k + 256 := by omega
    rw [e, gct_add]
    have ih := gct_blk (f := f) (g := g) k (fun c hc => h c (by omega))
    have hk := h k (by omega)
    show _ ≤ 128 * (gct g k + (g (k : Int)).toNat)
    cases q : g (k : Int) with
    | true =>
      have := hk.1 q
      show _ ≤ 128 * (gct g k + 1)
      omega
    | false =>
      have := hk.2 q
      show _ ≤ 128 * (gct g k + 0)
      omega
theorem gk_cnt8 : ∀ n : Nat, n < 8 → gct (fun x => !(x.toNat.testBit n)) 256 ≤ 128 := by decide +kernel
theorem gk_cntc : gct (fun c => decide (c % 81 = 0) || decide (c % 81 / 9 < c % 9)) 648 ≤ 296 := by decide +kernel
theorem gk_U_le {G : gm_G} {z : Int} {m : gh_M} : gk_U G z m ≤ 37888 := by
  have h1 : gk_U G z m ≤ gct (fun k => !((k % 256).toNat.testBit (k / 20736).toNat) && (decide (k / 256 % 81 = 0) || decide (k / 256 % 81 / 9 < k / 256 % 9))) (256 * 648) := by
    refine gct_mono 165888 (fun x x0 x1 p => ?_)
    have p2 := (@of_decide_eq_true _ (Classical.propDecidable _) p).1
    obtain ⟨v1, v2, v3, v4, v5, v6, v7⟩ := p2
    have nb : (x % 256).toNat.testBit (x / 20736).toNat = false := by
      cases q : (x % 256).toNat.testBit (x / 20736).toNat with
      | true => exact absurd q v6
      | false => rfl
    rw [nb]
    have : x / 256 % 81 = 0 ∨ x / 256 % 81 / 9 < x / 256 % 9 := by
      by_cases q : x / 256 % 81 / 9 = x / 256 % 9
      · have := v7 q
        exact Or.inl (by omega)
      · exact Or.inr (by omega)
    rcases this with q | q
    · rw [decide_eq_true q]
      rfl
    · rw [decide_eq_true q, Bool.or_true]
      rfl
  have h2 := gct_blk (f := fun k => !((k % 256).toNat.testBit (k / 20736).toNat) && (decide (k / 256 % 81 = 0) || decide (k / 256 % 81 / 9 < k / 256 % 9))) (g := fun c => decide (c % 81 = 0) || decide (c % 81 / 9 < c % 9)) 648 (fun c hc => by
    have at1 : ∀ x : Int, 0 ≤ x → x < 256 → (((256 * c : Nat) : Int) + x) % 256 = x ∧ (((256 * c : Nat) : Int) + x) / 20736 = (c : Int) / 81 ∧ (((256 * c : Nat) : Int) + x) / 256 = (c : Int) := fun x x0 x1 => by omega
    constructor
    · intro _
      refine Nat.le_trans (gct_mono 256 (fun x x0 x1 p => ?_)) (gk_cnt8 ((c : Int) / 81).toNat (by omega))
      obtain ⟨a1, a2, a3⟩ := at1 x x0 x1
      rw [a1, a2] at p
      exact (Bool.and_eq_true _ _ ▸ p).1
    · intro q
      have e : gct (fun x => (fun k => !((k % 256).toNat.testBit (k / 20736).toNat) && (decide (k / 256 % 81 = 0) || decide (k / 256 % 81 / 9 < k / 256 % 9))) (((256 * c : Nat) : Int) + x)) 256 = gct (fun _ => false) 256 := gct_cg 256 (fun x x0 x1 => by
        obtain ⟨a1, a2, a3⟩ := at1 x x0 x1
        (try dsimp only)
        rw [a3, q, Bool.and_false])
      rw [e]
      decide +kernel)
  have h3 := gk_cntc
  omega
