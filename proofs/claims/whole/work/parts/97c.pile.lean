/-! TREES: the model's pile -/
theorem gk_vk_C {G : gm_G} {z : Int} {k : Int} (h : gk_vk G z k) : 0 ≤ k / 20736 ∧ k / 20736 < gm_N G ∧ 0 ≤ k / 256 % 81 / 9 ∧ k / 256 % 81 / 9 ≤ k / 256 % 9 ∧ k / 256 % 9 ≤ z ∧ gbs 8 (k % 256) ∧ gk_nk (k / 20736) (k / 256 % 81 / 9) (k / 256 % 9) (k % 256) = k := by
  obtain ⟨v1, v2, v3, v4, v5, v6, v7⟩ := h
  refine ⟨by omega, v3, by omega, v4, v5, ⟨by omega, by show k % 256 < 2 ^ 8; omega⟩, ?_⟩
  unfold gk_nk
  by_cases q : k / 256 % 81 / 9 = k / 256 % 9
  · have := v7 q
    rw [if_pos q]
    omega
  · rw [if_neg q]
    omega
theorem gk_kr_le {G : gm_G} {z : Int} (z8 : z ≤ 8) {k : Int} (h : gk_vk G z k) : gk_kr k ≤ 80 := gk_rk_le (by have := h.2.2.2.2.1; have := h.1; omega)
noncomputable def gk_g (m : gh_M) : Nat := @ite Nat (0 < m 63 66 ∧ m 105 (m 107 (m 63 66 - 1)) < 0) (Classical.propDecidable _) (gk_kr (m 107 (m 63 66 - 1))) 80
theorem gk_g_t {m : gh_M} (h : 0 < m 63 66 ∧ m 105 (m 107 (m 63 66 - 1)) < 0) : gk_g m = gk_kr (m 107 (m 63 66 - 1)) := if_pos h
theorem gk_g_f {m : gh_M} (h : ¬ (0 < m 63 66 ∧ m 105 (m 107 (m 63 66 - 1)) < 0)) : gk_g m = 80 := if_neg h
noncomputable def gk_mu (G : gm_G) (z : Int) (m : gh_M) : Nat := gk_U G z m * 100000 + @ite Nat (0 < m 63 66 ∧ m 105 (m 107 (m 63 66 - 1)) < 0) (Classical.propDecidable _) (gk_kr (m 107 (m 63 66 - 1))) (200 + (m 63 66).toNat)
theorem gk_mu_t {G : gm_G} {z : Int} {m : gh_M} (h : 0 < m 63 66 ∧ m 105 (m 107 (m 63 66 - 1)) < 0) : gk_mu G z m = gk_U G z m * 100000 + gk_kr (m 107 (m 63 66 - 1)) := congrArg (gk_U G z m * 100000 + ·) (if_pos h)
theorem gk_mu_f {G : gm_G} {z : Int} {m : gh_M} (h : ¬ (0 < m 63 66 ∧ m 105 (m 107 (m 63 66 - 1)) < 0)) : gk_mu G z m = gk_U G z m * 100000 + (200 + (m 63 66).toNat) := congrArg (gk_U G z m * 100000 + ·) (if_neg h)
/-- within the counting of ak that began at m -/
def gk_ps (G : gm_G) (z : Int) (t : Int → Int) (ak a0 : Int) (U0 : Nat) (m m1 : gh_M) : Prop := gx [63, 105, 106, 107, 108] m m1 ∧ (∀ x, x ≠ 64 → x ≠ 66 → m1 63 x = m 63 x) ∧ (gk_ct G z t m1 ∧ gk_dn G z t m1) ∧ ((∀ x, m1 106 x ≤ m1 63 64) ∧ 0 ≤ m1 63 64) ∧ (0 ≤ m1 63 66 ∧ ∀ x, 0 ≤ x → x < m1 63 66 → gk_vk G z (m1 107 x) ∧ x + 648 * (gk_kr (m1 107 x) : Int) ≤ 51840) ∧ ((0 < m1 63 66 → m1 107 0 = ak) ∧ (m1 63 66 = 0 → 0 ≤ m1 105 ak)) ∧ m1 63 64 + (gk_g m1 : Int) + 82 * (gk_U G z m1 : Int) ≤ a0 + 80 + 82 * (U0 : Int)
theorem gk_top {G : gm_G} {z : Int} {t : Int → Int} {ak a0 : Int} {U0 : Nat} {m m1 : gh_M} (z8 : z ≤ 8) (h : gk_ps G z t ak a0 U0 m m1) : gk_g m1 ≤ 80 := by
  by_cases c : 0 < m1 63 66 ∧ m1 105 (m1 107 (m1 63 66 - 1)) < 0
  · rw [gk_g_t c]
    exact gk_kr_le z8 (h.2.2.2.2.1.2 _ (by omega) (by omega)).1
  · rw [gk_g_f c]
    exact Nat.le_refl _
theorem gk_nd_mono {G : gm_G} {z : Int} {t : Int → Int} {m m2 : gh_M} (h : ∀ x, 0 ≤ m 105 x → 0 ≤ m2 105 x) {r d p q i j A : Int} (w : gk_nd G z t m r d p q i j A) : gk_nd G z t m2 r d p q i j A := fun a b c => h _ (w a b c)
/-- a key is counted, and leaves the pile -/
theorem gk_pop {G : gm_G} {z : Int} {t : Int → Int} {ak a0 : Int} {U0 : Nat} {m m1 m2 : gh_M} (hG : gm_ok G) (z8 : z ≤ 8) (ps : gk_ps G z t ak a0 U0 m m1) (pos : 0 < m1 63 66) {v : Int} (hx : gx [63, 106, 107, 108] m1 m2) (h107 : ∀ x, x < m1 63 66 → m2 107 x = m1 107 x) (f63 : ∀ x, x ≠ 64 → m2 63 x = m1 63 x) (f64 : m2 63 64 ≤ m1 63 64 + 1) (f64b : 0 ≤ m2 63 64) (wt : ∀ x, m2 106 x ≤ m2 63 64) (hv : v = gk_kC G z t (m1 107 (m1 63 66 - 1))) (hold : 0 ≤ m1 105 (m1 107 (m1 63 66 - 1)) → v = m1 105 (m1 107 (m1 63 66 - 1)) ∧ m2 63 64 = m1 63 64) (hnd : ∀ r d p q, 0 ≤ r → r < gm_R G → gm_o G r = (m1 107 (m1 63 66 - 1)) / 20736 → 0 ≤ d → d < gm_s G r → gt_row G z t (gt_M G z t) r d ((m1 107 (m1 63 66 - 1)) / 256 % 81 / 9) p → p ≤ q → q ≤ (m1 107 (m1 63 66 - 1)) / 256 % 9 → gk_nd G z t m1 r d p q ((m1 107 (m1 63 66 - 1)) / 256 % 81 / 9) ((m1 107 (m1 63 66 - 1)) / 256 % 9) (gh_ior_f ((m1 107 (m1 63 66 - 1)) % 256) (gh_ishl_f 1 ((m1 107 (m1 63 66 - 1)) / 20736)))) : gk_ps G z t ak a0 U0 m (gh_u (gh_u m2 105 (m1 107 (m1 63 66 - 1)) v) 63 66 (m2 63 66 - 1)) ∧ gk_mu G z (gh_u (gh_u m2 105 (m1 107 (m1 63 66 - 1)) v) 63 66 (m2 63 66 - 1)) < gk_mu G z m1 := by
  obtain ⟨a1, a2, ⟨a3, a3'⟩, a4, a5, a6, a7⟩ := ps
  have topv := a5.2 (m1 63 66 - 1) (by omega) (by omega)
  generalize hK : m1 107 (m1 63 66 - 1) = K at *
  have v0 : 0 ≤ v := by
    rw [hv]
    exact (gk_C_b hG _ _ _ _).1
  have e66 : m2 63 66 = m1 63 66 := f63 66 (by decide)
  rw [e66]
  have e105 : m2 105 = m1 105 := hx 105 (by decide)
  have f105 : ∀ x, (gh_u (gh_u m2 105 K v) 63 66 (m1 63 66 - 1)) 105 x = if x = K then v else m1 105 x := fun x => by
    rw [gh_u_a (by decide)]
    by_cases y : x = K
    · rw [if_pos y, y, gh_u_s]
    · rw [if_neg y, gh_u_i y, e105]
  have g63 : ∀ x, x ≠ 66 → (gh_u (gh_u m2 105 K v) 63 66 (m1 63 66 - 1)) 63 x = m2 63 x := fun x y => by
    rw [gh_u_i y, gh_u_a (by decide)]
  have g66 : (gh_u (gh_u m2 105 K v) 63 66 (m1 63 66 - 1)) 63 66 = m1 63 66 - 1 := gh_u_s _ _ _ _
  have g107 : ∀ x, x < m1 63 66 → (gh_u (gh_u m2 105 K v) 63 66 (m1 63 66 - 1)) 107 x = m1 107 x := fun x y => by
    rw [gh_u_a (by decide), gh_u_a (by decide), h107 x y]
  have g106 : ∀ x, (gh_u (gh_u m2 105 K v) 63 66 (m1 63 66 - 1)) 106 x = m2 106 x := fun x => by
    rw [gh_u_a (by decide), gh_u_a (by decide)]
  have mono : ∀ x, 0 ≤ m1 105 x → 0 ≤ (gh_u (gh_u m2 105 K v) 63 66 (m1 63 66 - 1)) 105 x := fun x y => by
    rw [f105]
    split
    · exact v0
    · exact y
  have gx2 : gx [63, 105, 106, 107, 108] m (gh_u (gh_u m2 105 K v) 63 66 (m1 63 66 - 1)) := gx_u (gx_u (gx_tr (T := [63, 105, 106, 107, 108]) a1 (gx_sub hx (by decide))) (by decide)) (by decide)
  generalize hm3 : gh_u (gh_u m2 105 K v) 63 66 (m1 63 66 - 1) = m3 at *
  -- the measure
  have Ueq : gk_U G z m3 ≤ gk_U G z m1 ∧ (m1 105 K < 0 → gk_U G z m3 < gk_U G z m1) := by
    by_cases q : m1 105 K < 0
    · have := gk_U_lt (G := G) (z := z) (m := m1) (m2 := m3) topv.1 q (by rw [f105, if_pos rfl]; exact v0) (fun x y => by rw [f105, if_neg y])
      exact ⟨by omega, fun _ => this⟩
    · have e : m3 105 = m1 105 := by
        funext x
        rw [f105]
        by_cases y : x = K
        · rw [if_pos y, y]
          exact (hold (by omega)).1
        · rw [if_neg y]
      have := gk_U_x (G := G) (z := z) e
      exact ⟨by omega, fun y => absurd y q⟩
  have pile3 : 0 ≤ m3 63 66 ∧ ∀ x, 0 ≤ x → x < m3 63 66 → gk_vk G z (m3 107 x) ∧ x + 648 * (gk_kr (m3 107 x) : Int) ≤ 51840 := by
    rw [g66]
    refine ⟨by omega, fun x x0 x1 => ?_⟩
    rw [g107 x (by omega)]
    exact a5.2 x x0 (by omega)
  have g3 : gk_g m3 ≤ 80 := by
    by_cases c : 0 < m3 63 66 ∧ m3 105 (m3 107 (m3 63 66 - 1)) < 0
    · rw [gk_g_t c]
      exact gk_kr_le z8 (pile3.2 _ (by omega) (by omega)).1
    · rw [gk_g_f c]
      exact Nat.le_refl _
  have mu3 : gk_mu G z m3 ≤ gk_U G z m3 * 100000 + (200 + (m1 63 66 - 1).toNat) := by
    by_cases c : 0 < m3 63 66 ∧ m3 105 (m3 107 (m3 63 66 - 1)) < 0
    · rw [gk_mu_t c]
      have := gk_kr_le z8 (pile3.2 _ (by omega) (by omega : m3 63 66 - 1 < m3 63 66)).1
      omega
    · rw [gk_mu_f c, g66]
      exact Nat.le_refl _
  have p60 : m1 63 66 ≤ 51841 := by
    have := topv.2
    omega
  refine ⟨⟨gx2, fun x y1 y2 => ?_, ⟨fun k vk => ?_, fun k vk hk r d p q r0 r1 ro d0 d1 row pq qj => ?_⟩, ⟨fun x => ?_, ?_⟩, pile3, ⟨fun y => ?_, fun y => ?_⟩, ?_⟩, ?_⟩
  · rw [g63 x y2, f63 x y1]
    exact a2 x y1 y2
  · rw [f105]
    by_cases y : k = K
    · rw [if_pos y, y]
      exact Or.inr hv
    · rw [if_neg y]
      exact a3 k vk
  · by_cases y : k = K
    · rw [y] at ro row qj ⊢
      exact gk_nd_mono mono (hnd r d p q r0 r1 ro d0 d1 row pq qj)
    · rw [f105, if_neg y] at hk
      exact gk_nd_mono mono (a3' k vk hk r d p q r0 r1 ro d0 d1 row pq qj)
  · rw [g106, g63 64 (by decide)]
    exact wt x
  · rw [g63 64 (by decide)]
    exact f64b
  · rw [g107 0 (by omega)]
    exact a6.1 pos
  · rw [g66] at y
    have e0 : m1 63 66 - 1 = 0 := by omega
    rw [e0] at hK
    have := a6.1 pos
    rw [hK] at this
    rw [f105, if_pos this.symm]
    exact v0
  · rw [g63 64 (by decide)]
    by_cases q : m1 105 K < 0
    · have := Ueq.2 q
      omega
    · have h64 := (hold (by omega)).2
      have g1 : gk_g m1 = 80 := gk_g_f (fun y => by rw [hK] at y; exact q y.2)
      have := Ueq.1
      omega
  · by_cases q : m1 105 K < 0
    · have := Ueq.2 q
      have : gk_U G z m1 * 100000 ≤ gk_mu G z m1 := Nat.le_add_right _ _
      omega
    · have := Ueq.1
      rw [gk_mu_f (m := m1) (fun y => by rw [hK] at y; exact q y.2)]
      omega
