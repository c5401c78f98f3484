/-! TREES: the model's way, its keys and its sums -/
theorem gk_mplus {a b : Int} (a0 : 0 ≤ a) (a1 : a ≤ 1000000000000000000) (b0 : 0 ≤ b) (b1 : b ≤ 1000000000000000000) : x_Model_plus a b = min (a + b) 1000000000000000000 := by
  have e : (Int64.ofInt a + Int64.ofInt b).toInt = a + b := by
    rw [← Int64.ofInt_add]
    exact gh_i64 ⟨by omega, by omega⟩
  unfold x_Model_plus
  rw [e]
  split <;> omega
theorem gk_mtimes {a b : Int} (a0 : 0 ≤ a) (a1 : a ≤ 1000000000000000000) (b0 : 0 ≤ b) (b1 : b ≤ 1000000000000000000) : x_Model_times a b = min (a * b) 1000000000000000000 := by
  unfold x_Model_times
  by_cases q : a = 0
  · rw [if_pos q, q, Int.zero_mul]
    decide
  · rw [if_neg q]
    by_cases q2 : b = 0
    · rw [if_pos q2, q2, Int.mul_zero]
      decide
    · rw [if_neg q2]
      have bp : 0 < b := by omega
      obtain ⟨d1, d2, d3, d4, d5⟩ := gh_dv64 (x := 999999999999999999) (y := b) (by decide) bp ⟨by decide, by decide⟩ ⟨by omega, by omega⟩
      rw [d2, gh_i64 d4]
      have le := Int.le_ediv_iff_mul_le (a := a) (b := 999999999999999999) (c := b) bp
      have ab : 0 ≤ a * b := Int.mul_nonneg a0 b0
      by_cases q3 : a ≤ 999999999999999999 / b
      · have ab2 := le.mp q3
        rw [if_pos q3, ← Int64.ofInt_mul, gh_i64 ⟨by omega, by omega⟩]
        omega
      · have : ¬ a * b ≤ 999999999999999999 := fun y => q3 (le.mpr y)
        rw [if_neg q3]
        omega
theorem gk_mtimes0 {b : Int} : x_Model_times 0 b = 0 := if_pos rfl
/-- grammar, text and tables are in the model's cells -/
def gk_mx (G : gm_G) (z : Int) (t : Int → Int) (U : Int → Prop) (s : Prop) (m : gh_M) : Prop := gm_D m G ∧ gd_t m z t ∧ gd_ch G z t U s m ∧ gm_rg G (m 77) (m 78)
theorem gk_mx_x {G : gm_G} {z : Int} {t : Int → Int} {U : Int → Prop} {s : Prop} {S : List Int} {m m2 : gh_M} (hx : gx S m m2) (hS : (77 : Int) ∉ S ∧ (78 : Int) ∉ S ∧ (79 : Int) ∉ S ∧ (80 : Int) ∉ S ∧ (81 : Int) ∉ S ∧ (96 : Int) ∉ S ∧ (97 : Int) ∉ S ∧ (98 : Int) ∉ S ∧ (99 : Int) ∉ S ∧ (100 : Int) ∉ S) (e63 : ∀ x, x < 61 → m2 63 x = m 63 x) (h : gk_mx G z t U s m) : gk_mx G z t U s m2 := by
  obtain ⟨s77, s78, s79, s80, s81, s96, s97, s98, s99, s100⟩ := hS
  unfold gk_mx gm_D gd_t gd_ch gd_bg at h ⊢
  rw [e63 26 (by decide), e63 27 (by decide), e63 50 (by decide), hx 77 s77, hx 78 s78, hx 79 s79, hx 80 s80, hx 81 s81, hx 96 s96, hx 97 s97, hx 98 s98, hx 99 s99, hx 100 s100]
  exact h
def gk_nk (n p q B : Int) : Int := 256 * (81 * n + (if p = q then 0 else 9 * p + q)) + B
theorem gk_nk_d {n p q B : Int} (n0 : 0 ≤ n) (n1 : n < 8) (p0 : 0 ≤ p) (pq : p ≤ q) (q8 : q ≤ 8) (B0 : 0 ≤ B) (B1 : B < 256) : 0 ≤ gk_nk n p q B ∧ gk_nk n p q B < 165888 ∧ gk_nk n p q B / 20736 = n ∧ gk_nk n p q B / 256 % 81 / 9 = (if p = q then 0 else p) ∧ gk_nk n p q B / 256 % 9 = (if p = q then 0 else q) ∧ gk_nk n p q B % 256 = B ∧ gk_nk n p q B / 256 = 81 * n + (if p = q then 0 else 9 * p + q) := by
  unfold gk_nk
  by_cases e : p = q
  · rw [if_pos e, if_pos e, if_pos e]
    refine ⟨by omega, by omega, by omega, by omega, by omega, by omega, by omega⟩
  · rw [if_neg e, if_neg e, if_neg e]
    refine ⟨by omega, by omega, by omega, by omega, by omega, by omega, by omega⟩
theorem gk_keyWithin {m : gh_M} {G : gm_G} {z : Int} {t : Int → Int} {U : Int → Prop} {s : Prop} {Q : Int → Prop} {r d p q i j A : Int} (hG : gm_ok G) (mx : gk_mx G z t U s m) (r0 : 0 ≤ r) (r1 : r < gm_R G) (d0 : 0 ≤ d) (d1 : d < gm_s G r) (i0 : 0 ≤ i) (ip : i ≤ p) (pq : p ≤ q) (qj : q ≤ j) (jz : j ≤ z) (hA : gbs 8 A) (h0 : (gm_n G r d = -1 ∨ ¬ gt_M G z t (gm_n G r d) p q ∨ (p = i ∧ q = j ∧ gb A (gm_n G r d))) → Q (-1)) (h1 : gm_n G r d ≠ -1 → gt_M G z t (gm_n G r d) p q → ¬ (p = i ∧ q = j ∧ gb A (gm_n G r d)) → Q (gk_nk (gm_n G r d) p q (if p = i ∧ q = j then A else 0))) : w_Model_keyWithin (gm_p G r d) p q i j A m Q := by
  have hN := hG.2.1
  have z8 := mx.2.1.2.2.1
  have w := gm_p_n hG r0 r1 d0 d1
  have A1 : A < 256 := hA.2
  have A0 := hA.1
  refine ⟨fun c => ⟨by omega, by omega, by omega, by omega, by omega, by omega, by omega⟩, fun c => ?_, fun c => ?_⟩
  · refine h0 ?_
    rcases c with c | c
    · exact Or.inl (by omega)
    · by_cases n1 : gm_n G r d = -1
      · exact Or.inl n1
      · refine Or.inr (Or.inl (fun y => ?_))
        have e : -1 - gm_p G r d = gm_n G r d := by omega
        rw [e] at c
        exact (mx.2.2.1.2.1 _ p q (by omega) (by omega) (by omega) (by omega) (by omega) (by omega)).mpr y c
  have c0 : gm_p G r d ≤ 0 := by omega
  have n1 : gm_n G r d ≠ -1 := by omega
  have e : -1 - gm_p G r d = gm_n G r d := by omega
  rw [e] at c ⊢
  have mm : gt_M G z t (gm_n G r d) p q := (mx.2.2.1.2.1 _ p q (by omega) (by omega) (by omega) (by omega) (by omega) (by omega)).mp (fun y => c (Or.inr y))
  have tst := gb_test1 (x := A) (i := gm_n G r d) (gbs_le hA (by decide)) (by omega) (by omega)
  rintro _ rfl
  refine ⟨¬ (p = i ∧ q = j ∧ gb A (gm_n G r d)), fun y => ⟨by omega, ⟨by omega, fun _ => ⟨by omega, by omega, ?_⟩, fun _ => ⟨by omega, by omega, by omega, by omega, ?_⟩⟩, ?_⟩, fun _ => by omega, fun y => h0 (Or.inr (Or.inr ?_)), fun y u => y ?_⟩
  · split <;> split at * <;> omega
  · split <;> split at * <;> omega
  · have e2 : (if p = q then 256 * (81 * gm_n G r d + 0) + (if (if p = i ∧ q = j then (1 : Int) else 0) = 0 then 0 else A) else 256 * (81 * gm_n G r d + (9 * p + q)) + (if (if p = i ∧ q = j then (1 : Int) else 0) = 0 then 0 else A)) = gk_nk (gm_n G r d) p q (if p = i ∧ q = j then A else 0) := by
      have e3 : (if (if p = i ∧ q = j then (1 : Int) else 0) = 0 then (0 : Int) else A) = if p = i ∧ q = j then A else 0 := by
        by_cases u : p = i ∧ q = j
        · rw [if_pos u, if_pos u, if_neg (by decide)]
        · rw [if_neg u, if_neg u, if_pos rfl]
      unfold gk_nk
      rw [e3]
      by_cases u : p = q
      · rw [if_pos u, if_pos u]
      · rw [if_neg u, if_neg u]
    rw [e2]
    exact h1 n1 mm y
  · obtain ⟨y1, y2⟩ := y
    have u : p = i ∧ q = j := Classical.byContradiction (fun u => by
      rw [if_neg u] at y1
      exact y1 rfl)
    exact ⟨u.1, u.2, tst.mp y2⟩
  · rw [if_pos ⟨u.1, u.2.1⟩]
    exact ⟨by decide, tst.mpr u.2.2⟩
/-- the keys that count: of a name that is not above itself -/
def gk_vk (G : gm_G) (z : Int) (k : Int) : Prop := 0 ≤ k ∧ k < 165888 ∧ k / 20736 < gm_N G ∧ k / 256 % 81 / 9 ≤ k / 256 % 9 ∧ k / 256 % 9 ≤ z ∧ ¬ gb (k % 256) (k / 20736) ∧ (k / 256 % 81 / 9 = k / 256 % 9 → k / 256 % 9 = 0)
noncomputable def gk_kC (G : gm_G) (z : Int) (t : Int → Int) (k : Int) : Int := gk_C G z t (k / 20736) (k / 256 % 81 / 9) (k / 256 % 9) (gb (k % 256))
def gk_ct (G : gm_G) (z : Int) (t : Int → Int) (m : gh_M) : Prop := ∀ k, gk_vk G z k → m 105 k = -1 ∨ m 105 k = gk_kC G z t k
theorem gk_nk_v {G : gm_G} (hG : gm_ok G) {z : Int} (z0 : 0 ≤ z) (z8 : z ≤ 8) {n p q B : Int} (n0 : 0 ≤ n) (n1 : n < gm_N G) (p0 : 0 ≤ p) (pq : p ≤ q) (qz : q ≤ z) (hB : gbs 8 B) (nb : ¬ gb B n) : gk_vk G z (gk_nk n p q B) := by
  have hN := hG.2.1
  have B1 : B < 256 := hB.2
  obtain ⟨a1, a2, a3, a4, a5, a6, a7⟩ := gk_nk_d n0 (by omega) p0 pq (by omega) hB.1 B1
  refine ⟨a1, a2, by omega, ?_, ?_, by rw [a6, a3]; exact nb, fun y => ?_⟩
  · rw [a4, a5]
    split <;> omega
  · rw [a5]
    split <;> omega
  · rw [a4, a5] at y
    rw [a5]
    split
    · rfl
    · next u =>
      rw [if_neg u, if_neg u] at y
      exact absurd y u
theorem gk_nk_C {G : gm_G} (hG : gm_ok G) {z : Int} {t : Int → Int} (z8 : z ≤ 8) {n p q B : Int} (n0 : 0 ≤ n) (n1 : n < gm_N G) (p0 : 0 ≤ p) (pq : p ≤ q) (qz : q ≤ z) (hB : gbs 8 B) : gk_kC G z t (gk_nk n p q B) = gk_C G z t n p q (gb B) := by
  have hN := hG.2.1
  have B1 : B < 256 := hB.2
  obtain ⟨a1, a2, a3, a4, a5, a6, a7⟩ := gk_nk_d n0 (by omega) p0 pq (by omega) hB.1 B1
  unfold gk_kC
  rw [a3, a4, a5, a6]
  by_cases u : p = q
  · rw [if_pos u, if_pos u, ← u]
    exact gk_C_pp hG (Int.le_refl _) (by omega) p0 (by omega)
  · rw [if_neg u, if_neg u]
/-- what a part asks for is counted -/
def gk_nd (G : gm_G) (z : Int) (t : Int → Int) (m : gh_M) (r d p q i j A : Int) : Prop := gm_n G r d ≠ -1 → gt_M G z t (gm_n G r d) p q → ¬ (p = i ∧ q = j ∧ gb A (gm_n G r d)) → 0 ≤ m 105 (gk_nk (gm_n G r d) p q (if p = i ∧ q = j then A else 0))
theorem gk_mcountOf {m : gh_M} {G : gm_G} {z : Int} {t : Int → Int} {U : Int → Prop} {s : Prop} {E : Int} {Q : Int → Prop} {r d p q i j A : Int} (hG : gm_ok G) (e1 : gm_Ecl G E) (mx : gk_mx G z t U s m) (ct : gk_ct G z t m) (r0 : 0 ≤ r) (r1 : r < gm_R G) (d0 : 0 ≤ d) (d1 : d < gm_s G r) (i0 : 0 ≤ i) (ip : i ≤ p) (pq : p ≤ q) (qj : q ≤ j) (jz : j ≤ z) (hA : gbs 8 A) (H : ∀ v, (gk_nd G z t m r d p q i j A → v = gk_own G z t (gk_C G z t) r i j (gb A) d p q) → Q v) : w_Model_countOf (gm_p G r d) p q i j A m Q := by
  have hN := hG.2.1
  have z8 := mx.2.1.2.2.1
  have w := gm_p_n hG r0 r1 d0 d1
  refine ⟨fun c => ?_, fun c => ?_⟩
  · have n1 : gm_n G r d ≠ -1 := by omega
    refine gk_keyWithin hG mx r0 r1 d0 d1 i0 ip pq qj jz hA (fun y => ⟨fun u => absurd (show ((-1 : Int) < 0) by decide) u, ?_⟩) (fun _ y2 y3 => ?_)
    · rw [if_pos (by decide)]
      refine H 0 (fun _ => ?_)
      unfold gk_own
      rw [if_neg n1]
      rcases y with y | y | y
      · exact absurd y n1
      · by_cases u : p = i ∧ q = j
        · rw [if_pos u, ← u.1, ← u.2]
          exact (gk_C_0 y).symm
        · rw [if_neg u]
          exact (gk_C_0 y).symm
      · rw [if_pos ⟨y.1, y.2.1⟩, gk_eq hG (by omega) (by omega) (by omega) (by omega)]
        exact (gt_if_f (fun u => u.1 y.2.2)).symm
    · have hB : gbs 8 (if p = i ∧ q = j then A else 0) := by
        split
        · exact hA
        · exact gbs_0 8
      have nb : ¬ gb (if p = i ∧ q = j then A else 0) (gm_n G r d) := by
        split
        · next u => exact fun v => y3 ⟨u.1, u.2, v⟩
        · exact gb_0 _
      have vk := gk_nk_v hG (z := z) (by omega) z8 (n := gm_n G r d) (by omega) (by omega) (by omega : 0 ≤ p) pq (by omega) hB nb
      have kc := gk_nk_C hG (z := z) (t := t) z8 (n := gm_n G r d) (by omega) (by omega) (by omega : 0 ≤ p) pq (by omega) hB
      refine ⟨fun _ => ⟨vk.1, vk.2.1⟩, ?_⟩
      rw [if_neg (by have := vk.1; omega)]
      refine H _ (fun y => ?_)
      have pos := y n1 y2 y3
      rcases ct _ vk with u | u
      · omega
      · rw [u, kc]
        unfold gk_own
        rw [if_neg n1]
        by_cases v : p = i ∧ q = j
        · rw [if_pos v, if_pos v, v.1, v.2]
        · rw [if_neg v, if_neg v]
          exact gk_C_nil hG e1 (by omega) (by omega)
  · have n1 : gm_n G r d = -1 := by omega
    obtain ⟨t1, t2, t3, t4⟩ := mx.2.1
    refine ⟨?_, H _ (fun _ => ?_)⟩
    · unfold k_Model_partMakes
      exact ⟨fun u => absurd (by omega) c, fun _ => ⟨by omega, fun e => by omega⟩⟩
    · have ev : x_Model_partMakes (gm_p G r d) p q m = gt_ib (q = p + 1 ∧ p < z ∧ gb (gm_p G r d) (t p)) := by
        unfold x_Model_partMakes
        rw [if_neg c]
        by_cases e : q = p + 1
        · have tt := t4 p (by omega) (by omega)
          rw [if_pos e, tt.1]
          have b := gb_test1 (x := gm_p G r d) (i := t p) ⟨by omega, by omega⟩ tt.2.1 (by omega)
          by_cases c2 : gb (gm_p G r d) (t p)
          · rw [if_pos (b.mpr c2), gt_ib_t ⟨e, by omega, c2⟩]
          · rw [if_neg (fun y => c2 (b.mp y)), gt_ib_f (fun y => c2 y.2.2)]
        · rw [if_neg e, gt_ib_f (fun y => e y.1)]
      rw [ev]
      unfold gk_own
      rw [if_pos n1]
      rcases gt_ib_01 (P := q = p + 1 ∧ p < z ∧ gb (gm_p G r d) (t p)) with u | u
      · rw [u]
        decide
      · rw [u]
        decide
