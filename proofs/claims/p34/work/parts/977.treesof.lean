/-! TREES: what the class keeps between calls, and its answer -/
def gk_fo (gk_K : Int) (G : gm_G) (z : Int) (t : Int → Int) (m : gh_M) : Prop := gk_mem gk_K m ∧ -1 ≤ m 41 11 ∧ m 41 11 ≤ z ∧ 0 ≤ m 41 9 ∧ (m 41 7 = 66 → ∀ x, m 67 x ≤ m 41 9) ∧ (∀ n k e, 0 ≤ n → n < gm_N G → 0 ≤ k → k ≤ e → e ≤ m 41 11 → m 42 ((n * 9 + k) * 9 + e) = gk_C G z t n k e (fun _ => False)) ∧ (0 ≤ m 41 11 → 1 ≤ m 41 10 ∧ m 41 10 ≤ m 41 9 ∧ gk_ue G z t m)
theorem gk_fo_x {gk_K : Int} {G : gm_G} {z : Int} {t : Int → Int} {S : List Int} {m m2 : gh_M} (hx : gx S m m2) (hS : (0 : Int) ∉ S ∧ (41 : Int) ∉ S ∧ (42 : Int) ∉ S ∧ (66 : Int) ∉ S ∧ (67 : Int) ∉ S) (h : gk_fo gk_K G z t m) : gk_fo gk_K G z t m2 := by
  unfold gk_fo gk_mem gk_ue at h ⊢
  rw [hx 0 hS.1, hx 41 hS.2.1, hx 42 hS.2.2.1, hx 66 hS.2.2.2.1, hx 67 hS.2.2.2.2]
  exact h
/-- letters behind are dropped, or others come -/
theorem gk_fo_forget {gk_K : Int} {G : gm_G} (hG : gm_ok G) {z z2 c : Int} {t t2 : Int → Int} {m m2 : gh_M} (c0 : -1 ≤ c) (c1 : c ≤ z) (c2 : c ≤ z2) (ht : ∀ p, 0 ≤ p → p < c → t p = t2 p) (h : gk_fo gk_K G z t m) (e0 : m2 0 = m 0) (e42 : m2 42 = m 42) (e118 : m2 66 = m 66) (e119 : m2 67 = m 67) (e41 : ∀ x, x ≠ 11 → m2 41 x = m 41 x) (e11 : m2 41 11 = min (m 41 11) c) : gk_fo gk_K G z2 t2 m2 := by
  obtain ⟨h1, h2, h3, h4, h5, h6, h7⟩ := h
  refine ⟨?_, by omega, by omega, by rw [e41 9 (by decide)]; exact h4, ?_, fun n k e n0 n1 k0 ke er => ?_, fun r => ?_⟩
  · unfold gk_mem
    rw [e0, e41 7 (by decide), e41 8 (by decide)]
    exact h1
  · rw [e119, e41 7 (by decide), e41 9 (by decide)]
    exact h5
  · rw [e42, h6 n k e n0 n1 k0 ke (by omega)]
    exact gk_C_cut hG c1 c2 ht k0 (by omega)
  · obtain ⟨u1, u2, u3⟩ := h7 (by omega)
    refine ⟨by rw [e41 10 (by decide)]; exact u1, by rw [e41 10 (by decide), e41 9 (by decide)]; exact u2, fun y n h n0 n1 h0 h1' w => ?_⟩
    rw [e41 7 (by decide)] at y
    rw [e119, e41 10 (by decide)] at w
    rw [e118, u3 y n h n0 n1 h0 h1' w]
    exact gk_C_cut hG c1 c2 ht (Int.le_refl _) (by omega)
/-- another grammar -/
theorem gk_fo_new {gk_K : Int} {G G2 : gm_G} {z z2 : Int} {t t2 : Int → Int} {m m2 : gh_M} (z0 : 0 ≤ z2) (h : gk_fo gk_K G z t m) (e0 : m2 0 = m 0) (e119 : m2 67 = m 67) (e41 : ∀ x, x ≠ 11 → m2 41 x = m 41 x) (e11 : m2 41 11 = -1) : gk_fo gk_K G2 z2 t2 m2 := by
  obtain ⟨h1, h2, h3, h4, h5, h6, h7⟩ := h
  refine ⟨?_, by omega, by omega, by rw [e41 9 (by decide)]; exact h4, ?_, fun n k e n0 n1 k0 ke er => by omega, fun r => by omega⟩
  · unfold gk_mem
    rw [e0, e41 7 (by decide), e41 8 (by decide)]
    exact h1
  · rw [e119, e41 7 (by decide), e41 9 (by decide)]
    exact h5
theorem gk_treesOf {gk_K : Int} {G : gm_G} {z : Int} {t : Int → Int} {E : Int} {O : Int → Int} {m : gh_M} {Q : Int → gh_M → Prop} {n i j : Int} (hG : gm_ok G) (fa : gk_fa G E O) (n0 : 0 ≤ n) (n1 : n < gm_N G) (i0 : 0 ≤ i) (ij : i ≤ j) (jz : j ≤ z) (cx : gk_cx G z t O m) (fo : gk_fo gk_K G z t m) (tb : m 41 9 < 2147483000) (H : ∀ m2, gx gk_fl m m2 → (∀ x, x < 7 → m2 41 x = m 41 x) → gk_fo gk_K G z t m2 → j ≤ m2 41 11 → m2 41 9 ≤ m 41 9 + 81 → (m2 = m ∨ ∃ ci cj, gk_un G z t ci cj m2) → Q (gk_C G z t n i j (fun _ => False)) m2) : w_Forest_treesOf n i j m Q := by
  have hN := hG.2.1
  have z8 : z ≤ 8 := by
    have := cx.2.1.2.1
    have := cx.2.2.2.2.1
    omega
  have f1 := fo.2.1
  have f2 := fo.2.2.1
  refine ⟨by omega, ?_⟩
  rintro _ rfl
  refine ⟨fun k m1 => m 41 11 + 1 ≤ k ∧ (k ≤ j + 1 ∨ k = m 41 11 + 1) ∧ gx gk_fl m m1 ∧ (∀ x, x < 7 → m1 41 x = m 41 x) ∧ gk_fo gk_K G z t m1 ∧ m1 41 11 = k - 1 ∧ m1 41 9 ≤ m 41 9 + 9 * (k - (m 41 11 + 1)) ∧ (m1 = m ∨ ∃ ci cj, gk_un G z t ci cj m1), fun k _ => (20 - k).toNat, ⟨Int.le_refl _, Or.inr rfl, gx_rf, fun _ _ => rfl, fo, by omega, by omega, Or.inl rfl⟩, ?_⟩
  rintro k m1 ⟨k0, k1, x1, o1, fo1, r1, u1, w1⟩
  unfold f_Forest_treesOf_8
  refine ⟨fun c => ?_, fun c => ⟨⟨by omega, by omega, by omega, by omega⟩, by omega, by omega, ?_⟩⟩
  rotate_left
  · rw [fo1.2.2.2.2.2.1 n i j n0 n1 i0 ij (by omega)]
    exact H m1 x1 o1 fo1 (by omega) (by omega) w1
  obtain ⟨a1, a2, a3, a4, a5, a6, a7⟩ := fo1
  refine ⟨fun f m2 => -1 ≤ f ∧ f ≤ k ∧ gx gk_fl m m2 ∧ (∀ x, x < 7 → m2 41 x = m 41 x) ∧ m2 41 11 = k - 1 ∧ gk_mem gk_K m2 ∧ 0 ≤ m2 41 9 ∧ (m2 41 7 = 66 → ∀ x, m2 67 x ≤ m2 41 9) ∧ (∀ n k' e, 0 ≤ n → n < gm_N G → 0 ≤ k' → k' ≤ e → (e < k ∨ (e = k ∧ f < k')) → m2 42 ((n * 9 + k') * 9 + e) = gk_C G z t n k' e (fun _ => False)) ∧ ((0 < k ∨ f < 0) → 1 ≤ m2 41 10 ∧ m2 41 10 ≤ m2 41 9 ∧ gk_ue G z t m2) ∧ m2 41 9 ≤ m 41 9 + 9 * (k - (m 41 11 + 1)) + (k - f) ∧ (f = k ∨ ∃ ci cj, gk_un G z t ci cj m2), fun f _ => (f + 1).toNat, ⟨by omega, by omega, x1, o1, r1, a1, a4, a5, fun n k' e n0 n1 k0 ke o => a6 n k' e n0 n1 k0 ke (by omega), fun o => a7 (by omega), by omega, Or.inl rfl⟩, ?_⟩
  rintro f m2 ⟨b1, b2, b3, b4, b5, b6, b7, b8, b9, b10, b11, b12⟩
  unfold f_Forest_treesOf_18
  refine ⟨fun c2 => ⟨by omega, ⟨by omega, by omega, gx_u b3 (by decide), fun x y => by rw [gh_u_i (by omega)]; exact b4 x y, ⟨?_, ?_, ?_, ?_, ?_, ?_, ?_⟩, ?_, ?_, ?_⟩, by (try dsimp only); omega⟩, fun c2 => ?_⟩
  · unfold gk_mem
    rw [gh_u_i (by decide), gh_u_i (by decide)]
    rw [show (gh_u m2 41 11 k) 0 = m2 0 from gx_one _ _ _ _ 0 (by decide)]
    exact b6
  · rw [gh_u_s]
    omega
  · rw [gh_u_s]
    omega
  · rw [gh_u_i (by decide)]
    exact b7
  · rw [gh_u_i (by decide), gh_u_i (by decide)]
    rw [show (gh_u m2 41 11 k) 67 = m2 67 from gx_one _ _ _ _ 67 (by decide)]
    exact b8
  · intro n' k' e n0' n1' k0' ke er
    rw [gh_u_s] at er
    rw [show (gh_u m2 41 11 k) 42 = m2 42 from gx_one _ _ _ _ 42 (by decide)]
    exact b9 n' k' e n0' n1' k0' ke (by omega)
  · intro _
    obtain ⟨u1', u2, u3⟩ := b10 (Or.inr c2)
    rw [gh_u_i (by decide), gh_u_i (by decide)]
    refine ⟨u1', u2, ?_⟩
    unfold gk_ue
    rw [gh_u_i (by decide), gh_u_i (by decide)]
    rw [show (gh_u m2 41 11 k) 67 = m2 67 from gx_one _ _ _ _ 67 (by decide), show (gh_u m2 41 11 k) 66 = m2 66 from gx_one _ _ _ _ 66 (by decide)]
    exact u3
  · rw [gh_u_s]
    omega
  · rw [gh_u_i (by decide)]
    omega
  · refine Or.inr ?_
    rcases b12 with y | ⟨ci, cj, y⟩
    · omega
    · refine ⟨ci, cj, ?_⟩
      unfold gk_un
      rw [gh_u_i (by decide), gh_u_i (by decide), gh_u_i (by decide)]
      rw [show (gh_u m2 41 11 k) 67 = m2 67 from gx_one _ _ _ _ 67 (by decide), show (gh_u m2 41 11 k) 66 = m2 66 from gx_one _ _ _ _ 66 (by decide)]
      exact y
  · refine gk_countOver hG fa (i := f) (j := k) (by omega) b2 (by omega) z8 (gk_cx_x b3 (by decide) cx) b6 b7 (by omega) b8 (fun n' k' e a b c' d' e' o => b9 n' k' e a b (by omega) d' (by omega)) (fun kp => ⟨fun n' a b => b9 n' 0 0 a b (Int.le_refl _) (Int.le_refl _) (Or.inl kp), b10 (Or.inl kp)⟩) (fun m3 y1 y2 y3 y4 y5 y6 y7 y9 y8 => ⟨by omega, ⟨by omega, by omega, gx_tr (T := gk_fl) b3 y1, fun x o => (y2 x (by omega) (by omega) (by omega) (by omega)).trans (b4 x o), (y2 11 (by decide) (by decide) (by decide) (by decide)).trans b5, y5, by omega, y6.2.2, fun n' k' e n0' n1' k0' ke o => ?_, fun _ => ⟨y6.1, y6.2.1, y7⟩, by omega, Or.inr ⟨_, _, y9⟩⟩, by (try dsimp only); omega⟩)
    by_cases q : e = k ∧ k' = f
    · rw [q.1, q.2]
      exact y8 n' n0' n1'
    · rw [y4 _ (by omega)]
      exact b9 n' k' e n0' n1' k0' ke (by omega)

