/-! SUMS; THE CLASS'S ITEMS -/
def gsum (f : Int → Int) : Nat → Int
  | 0 => 0
  | k + 1 => gsum f k + f k
theorem gsum_cg {f g : Int → Int} : ∀ n : Nat, (∀ i : Int, 0 ≤ i → i < n → f i = g i) → gsum f n = gsum g n
  | 0, _ => rfl
  | k + 1, h => by
    have h1 := gsum_cg (f := f) (g := g) k (fun i a b => h i a (by omega))
    have h2 := h k (by omega) (by omega)
    unfold gsum
    omega
theorem gsum_z {f : Int → Int} : ∀ n : Nat, (∀ i : Int, 0 ≤ i → i < n → f i = 0) → gsum f n = 0
  | 0, _ => rfl
  | k + 1, h => by
    have h1 := gsum_z (f := f) k (fun i a b => h i a (by omega))
    have h2 := h k (by omega) (by omega)
    unfold gsum
    omega
theorem gsum_upd {f g : Int → Int} {x : Int} : ∀ n : Nat, 0 ≤ x → x < n → (∀ i : Int, 0 ≤ i → i < n → i ≠ x → g i = f i) → gsum g n = gsum f n + (g x - f x)
  | 0, a, b, _ => by omega
  | k + 1, a, b, h => by
    unfold gsum
    by_cases c : x = k
    · have h1 := gsum_cg (f := g) (g := f) k (fun i a b => h i a (by omega) (by omega))
      subst c
      omega
    · have h1 := gsum_upd (f := f) (g := g) (x := x) k a (by omega) (fun i a b c => h i a (by omega) c)
      have h2 := h k (by omega) (by omega) (fun e => c e.symm)
      omega
theorem gsum_nn {f : Int → Int} : ∀ n : Nat, (∀ i : Int, 0 ≤ i → i < n → 0 ≤ f i) → 0 ≤ gsum f n
  | 0, _ => Int.le_refl _
  | k + 1, h => by
    have h1 := gsum_nn (f := f) k (fun i a b => h i a (by omega))
    have h2 := h k (by omega) (by omega)
    unfold gsum
    omega
theorem gsum_le {f : Int → Int} {B : Int} : ∀ n : Nat, (∀ i : Int, 0 ≤ i → i < n → f i ≤ B) → gsum f n ≤ n * B
  | 0, _ => by unfold gsum; omega
  | k + 1, h => by
    have h1 := gsum_le (f := f) (B := B) k (fun i a b => h i a (by omega))
    have h2 := h k (by omega) (by omega)
    have h3 : ((k + 1 : Nat) : Int) * B = k * B + B := by
      rw [Int.natCast_add, Int.add_mul]
      simp
    unfold gsum
    rw [h3]
    omega
theorem gt_test {x i : Int} (hx : gbs 31 x) (h0 : 0 ≤ i) (h1 : i < 32) : gh_iand_f (gh_ishr_f x i) 1 = gt_ib (gb x i) := by
  by_cases c : gb x i
  · rw [gt_ib_t c]
    exact (gb_test1 hx h0 h1).mpr c
  · rw [gt_ib_f c]
    exact (gb_test0 hx h0 h1).mpr c
/-- one bit of x, moved to n -/
theorem gt_put {x i n : Int} (hx : gbs 31 x) (h0 : 0 ≤ i) (h1 : i < 32) (n0 : 0 ≤ n) (n1 : n < 8) : gbs 8 (gh_ishl_f (gh_iand_f (gh_ishr_f x i) 1) n) ∧ ∀ c, 0 ≤ c → (gb (gh_ishl_f (gh_iand_f (gh_ishr_f x i) 1) n) c ↔ c = n ∧ gb x i) := by
  rw [gt_test hx h0 h1]
  by_cases q : gb x i
  · rw [gt_ib_t q]
    refine ⟨gbs_one n0 (by omega) (by decide), fun c c0 => ?_⟩
    rw [gb_ishl1 n0 (by omega) c0]
    exact ⟨fun y => ⟨y, q⟩, fun y => y.1⟩
  · rw [gt_ib_f q]
    have e : gh_ishl_f 0 n = 0 := by
      obtain ⟨k, rfl⟩ := Int.eq_ofNat_of_zero_le n0
      have := gb_shl (a := 0) (k := k) (by omega) (by rw [Nat.zero_mul]; decide)
      rw [Nat.zero_mul] at this
      exact this
    rw [e]
    exact ⟨gbs_0 _, fun c c0 => ⟨fun y => absurd y (gb_0 c), fun y => absurd y.2 q⟩⟩
/-- the table is what names make -/
def gt_full (G : gm_G) (m : gh_M) : Prop := (∀ x, 0 ≤ x → x < 72 → gbs 9 (m 31 x)) ∧ ∀ n i j, gt_tab G m n i j ↔ gt_M G (m 26 3) (m 27) n i j
theorem gt_full_s {G : gm_G} {m : gh_M} (h : gt_full G m) : gt_ts G m := ⟨h.1, fun n i j w => (h.2 n i j).mp w⟩
theorem gt_row_tab {G : gm_G} {m : gh_M} (h : gt_full G m) {r d i j : Int} : gt_row G (m 26 3) (m 27) (gt_tab G m) r d i j ↔ gt_row G (m 26 3) (m 27) (gt_M G (m 26 3) (m 27)) r d i j :=
  ⟨gt_row_mono (fun _ _ _ _ _ _ => (h.2 _ _ _).mp), gt_row_mono (fun _ _ _ _ _ _ => (h.2 _ _ _).mpr)⟩
theorem gt_enter32 {m : gh_M} {G : gm_G} {Q : Int → gh_M → Prop} (hG : gm_ok G) (hC : gm_C m G) (ht : gt_t m) (hs : gt_full G m) (hn : ∀ k, 0 ≤ k → k ≤ 8 → gbs 8 (m 32 k)) {r d P : Int} (r0 : 0 ≤ r) (r1 : r < gm_R G) (d0 : 0 ≤ d) (d1 : d < gm_s G r) (hP : gbs 9 P) (h : ∀ V m1, gx [32] m m1 → gbs 9 V → (∀ q, 0 ≤ q → (gb V q ↔ ∃ p, 0 ≤ p ∧ p ≤ m 26 3 ∧ gb P p ∧ gt_pm G (m 26 3) (m 27) (gt_tab G m) r d p q)) → (∀ k, 0 ≤ k → k ≤ 8 → gbs 8 (m1 32 k) ∧ ∀ c, 0 ≤ c → (gb (m1 32 k) c ↔ gb (m 32 k) c ∨ (k ≤ m 26 3 ∧ c = gm_n G r d ∧ gb P k))) → Q V m1) : w_Chart_enter_32 (gm_p G r d) P m Q := by
  have hN := hG.2.1
  obtain ⟨k1, x1⟩ := gm_nameOf hG hC r0 r1 d0 d1
  have w := gm_n_rng hG r0 r1 d0 d1
  have ht2 := ht.2.1
  refine ⟨k1, ?_⟩
  rintro _ rfl
  rw [x1]
  refine ⟨fun k m1 => 0 ≤ k ∧ k ≤ m 26 3 + 1 ∧ gx [32] m m1 ∧ (∀ e, 0 ≤ e → e ≤ 8 → gbs 8 (m1 32 e) ∧ ∀ c, 0 ≤ c → (gb (m1 32 e) c ↔ gb (m 32 e) c ∨ (e < k ∧ c = gm_n G r d ∧ gb P e))), fun k _ => (20 - k).toNat, ⟨by omega, by have := ht.1; omega, gx_rf, fun e e0 e1 => ⟨hn e e0 e1, fun c c0 => ⟨Or.inl, fun y => y.elim id (fun u => by omega)⟩⟩⟩, ?_⟩
  rintro k m1 ⟨k0, k2, hx, he⟩
  have e26 : m1 26 = m 26 := hx 26 (by decide)
  have e27 : m1 27 = m 27 := hx 27 (by decide)
  have e31 : m1 31 = m 31 := hx 31 (by decide)
  have hC1 := gm_C_x hx (by decide) hC
  have ht1 : gt_t m1 := by
    unfold gt_t
    rw [e26, e27]
    exact ht
  have tabs : ∀ n i j, gt_tab G m1 n i j ↔ gt_tab G m n i j := fun n i j => by
    unfold gt_tab
    rw [e31]
  have hs1 : gt_ts G m1 := by
    refine ⟨?_, fun n i j y => ?_⟩
    · rw [e31]
      exact hs.1
    · rw [e26, e27]
      exact (hs.2 n i j).mp ((tabs n i j).mp y)
  unfold f_Chart_enter_32_13
  rw [e26]
  refine ⟨fun m2 => m2 = m1 ∧ (¬ k ≤ m 26 3 ∨ gm_n G r d = -1), ?_, fun c => ⟨rfl, c⟩, fun c => ?_⟩
  · rintro m2 ⟨e, c⟩
    rw [e]
    refine gt_beyond hG hC1 ht1 hs1 r0 r1 d0 d1 hP (fun V v1 v2 => h V m1 hx v1 (fun q q0 => ?_) (fun e e0 e1 => ⟨(he e e0 e1).1, fun c c0 => ?_⟩))
    · rw [v2 q q0, e26, e27]
      constructor
      · rintro ⟨p, y1, y2, y3, y4⟩
        exact ⟨p, y1, y2, y3, gt_pm_mono (fun _ y => (tabs _ _ _).mp y) y4⟩
      · rintro ⟨p, y1, y2, y3, y4⟩
        exact ⟨p, y1, y2, y3, gt_pm_mono (fun _ y => (tabs _ _ _).mpr y) y4⟩
    · rw [(he e e0 e1).2 c c0]
      refine or_congr Iff.rfl ⟨fun y => ⟨by omega, y.2⟩, fun y => ⟨by omega, y.2⟩⟩
  · have nn : 0 ≤ gm_n G r d ∧ gm_n G r d < gm_N G := by omega
    obtain ⟨b1, b2⟩ := gt_put (n := gm_n G r d) (gbs_le hP (by decide : 9 ≤ 31)) k0 (by omega) nn.1 (by omega)
    have hk := (he k k0 (by omega)).1
    refine ⟨by omega, by omega, by omega, by omega, by omega, ⟨by omega, by omega, gx_u hx (List.mem_singleton.mpr rfl), fun e e0 e1 => ?_⟩, by (try dsimp only); omega⟩
    by_cases q : e = k
    · subst q
      rw [gh_u_s]
      refine ⟨gbs_or (by decide) hk b1, fun c c0 => ?_⟩
      rw [gb_ior (by decide : 8 ≤ 31) hk b1, (he e e0 e1).2 c c0, b2 c c0]
      constructor
      · rintro ((y | y) | y)
        · exact Or.inl y
        · exact Or.inr ⟨by omega, y.2⟩
        · exact Or.inr ⟨by omega, y⟩
      · rintro (y | y)
        · exact Or.inl (Or.inl y)
        · exact Or.inr y.2
    · rw [gh_u_i q]
      refine ⟨(he e e0 e1).1, fun c c0 => ?_⟩
      rw [(he e e0 e1).2 c c0]
      exact or_congr Iff.rfl ⟨fun y => ⟨by omega, y.2⟩, fun y => ⟨by omega, y.2⟩⟩
/-- how many of the first d beginnings of the rule r from i end at k -/
noncomputable def gt_ic (G : gm_G) (z : Int) (t : Int → Int) (r i k : Int) (d : Nat) : Int := gsum (fun e => gt_ib (gt_row G z t (gt_M G z t) r e i k)) d
theorem gt_ic_b {G : gm_G} {z : Int} {t : Int → Int} {r i k : Int} (d : Nat) : 0 ≤ gt_ic G z t r i k d ∧ gt_ic G z t r i k d ≤ d := by
  unfold gt_ic
  have h1 := gsum_nn (f := fun e => gt_ib (gt_row G z t (gt_M G z t) r e i k)) d (fun e _ _ => by rcases gt_ib_01 (P := gt_row G z t (gt_M G z t) r e i k) with h | h <;> ((try dsimp only); omega))
  have h2 := gsum_le (f := fun e => gt_ib (gt_row G z t (gt_M G z t) r e i k)) (B := 1) d (fun e _ _ => by rcases gt_ib_01 (P := gt_row G z t (gt_M G z t) r e i k) with h | h <;> ((try dsimp only); omega))
  omega

