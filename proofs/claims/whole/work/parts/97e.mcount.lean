/-! TREES: the model counts -/
def gk_co (G : gm_G) (z : Int) (t : Int → Int) (m : gh_M) : Prop := (m 63 61 ≠ 0 → gk_ct G z t m ∧ gk_dn G z t m) ∧ (∀ x, m 106 x ≤ m 63 64) ∧ 0 ≤ m 63 64
theorem gk_mcount {G : gm_G} {z : Int} {t : Int → Int} {U : Int → Prop} {s : Prop} {E : Int} {m : gh_M} {Q : Int → gh_M → Prop} {n i j : Int} (hG : gm_ok G) (e1 : gm_Ecl G E) (hD : gm_D m G) (ht : gd_t m z t) (hU : ∀ r, 0 ≤ r → r < gm_R G → (m 83 r ≠ 0 ↔ U r)) (hst : m 82 0 < 1000000000 ↔ s) (hl : m 63 52 ≠ 0 → gd_ch G z t U s m) (hr : gm_rg G (m 77) (m 78)) (co : gk_co G z t m) (n0 : 0 ≤ n) (n1 : n < gm_N G) (i0 : 0 ≤ i) (ij : i ≤ j) (jz : j ≤ z) (ha : m 63 64 < 2140000000) (H : ∀ m2, gx [63, 97, 98, 99, 100, 105, 106, 107, 108] m m2 → (∀ x, x ≠ 52 → x ≠ 61 → x ≠ 64 → x ≠ 66 → m2 63 x = m 63 x) → m2 63 52 ≠ 0 → m2 63 61 ≠ 0 → (m2 63 52 = m 63 52 ∨ m2 63 52 = 1) → (m2 63 61 = m 63 61 ∨ m2 63 61 = 1) → gk_mx G z t U s m2 → gk_co G z t m2 → m2 63 64 ≤ m 63 64 + 3200000 → 0 ≤ m2 105 (gk_nk n i j 0) → Q (gk_C G z t n i j (fun _ => False)) m2) : w_Model_countTrees n i j m Q := by
  have hN := hG.2.1
  have z8 := ht.2.2.1
  obtain ⟨co1, co2, co3⟩ := co
  refine gd_lay hG hD ht hU hst hl (fun m1 x1 o1 l1 l2 ch1 => ?_)
  have mx1 : gk_mx G z t U s m1 := by
    refine ⟨?_, ?_, ch1, by rw [x1 77 (by decide), x1 78 (by decide)]; exact hr⟩
    · unfold gm_D
      rw [o1 26 (by decide), o1 27 (by decide), x1 79 (by decide), x1 80 (by decide), x1 81 (by decide)]
      exact hD
    · unfold gd_t
      rw [o1 50 (by decide), x1 96 (by decide)]
      exact ht
  have vak := gk_nk_v hG (z := z) (by omega) z8 n0 n1 i0 ij jz (gbs_0 8) (gb_0 n)
  have vC := gk_nk_C hG (z := z) (t := t) z8 n0 n1 i0 ij jz (gbs_0 8)
  refine ⟨fun m2 => gx [63, 105] m1 m2 ∧ (∀ x, x ≠ 61 → m2 63 x = m1 63 x) ∧ m2 63 61 ≠ 0 ∧ (m2 63 61 = m 63 61 ∨ m2 63 61 = 1) ∧ gk_ct G z t m2 ∧ gk_dn G z t m2, fun m2 ⟨y1, y2, y3, y4, y5, y6⟩ => ⟨⟨by omega, fun _ => ⟨by omega, by omega, by omega⟩, fun _ => ⟨by omega, by omega, by omega, by omega, by omega⟩⟩, ?_⟩, fun c => ?_, fun c => ?_⟩
  rotate_left
  · -- nothing is counted yet
    have hx0 : gx [63] m1 (gh_u m1 63 61 1) := gx_one _ _ _ _
    refine ⟨fun k m2 => 0 ≤ k ∧ k ≤ 165888 ∧ gx [105] (gh_u m1 63 61 1) m2 ∧ ∀ x, 0 ≤ x → x < k → m2 105 x = -1, fun k _ => (170000 - k).toNat, ⟨by omega, by omega, gx_rf, fun x a b => by omega⟩, ?_⟩
    rintro k m2 ⟨k0, k1, hx, hk⟩
    unfold f_Model_countTrees_19
    refine ⟨fun c2 => ⟨by omega, by omega, by omega, ⟨by omega, by omega, gx_u hx (List.mem_singleton.mpr rfl), fun x x0 x1 => ?_⟩, by (try dsimp only); omega⟩, fun c2 => ?_⟩
    · by_cases q : x = k
      · rw [q, gh_u_s]
      · rw [gh_u_i q]
        exact hk x x0 (by omega)
    have e63 : m2 63 = (gh_u m1 63 61 1) 63 := hx 63 (by decide)
    refine ⟨fun a ha => (hx a (fun y => ha (by rw [List.mem_singleton.mp y]; decide))).trans (hx0 a (fun y => ha (by rw [List.mem_singleton.mp y]; decide))), fun x y => by rw [e63, gh_u_i y], by rw [e63, gh_u_s]; decide, Or.inr (by rw [e63, gh_u_s]), fun k' vk => Or.inl (hk k' vk.1 (by have := vk.2.1; omega)), fun k' vk w => ?_⟩
    have := hk k' vk.1 (by have := vk.2.1; omega)
    omega
  · have c' : m 63 61 ≠ 0 := fun y => c ((o1 61 (by decide)).trans y)
    obtain ⟨u1, u2⟩ := co1 c'
    have e105 : m1 105 = m 105 := x1 105 (by decide)
    refine ⟨gx_rf, fun _ _ => rfl, c, Or.inl (o1 61 (by decide)), gk_ct_x e105 u1, fun k vk w r d p q r0 r1 ro d0 d1 row pq qj => ?_⟩
    rw [e105] at w
    exact gk_nd_x e105 (u2 k vk w r d p q r0 r1 ro d0 d1 row pq qj)
  have akE : (if i = j then 256 * (81 * n + 0) + 0 else 256 * (81 * n + (9 * i + j)) + 0) = gk_nk n i j 0 := by
    unfold gk_nk
    by_cases q : i = j
    · rw [if_pos q, if_pos q]
    · rw [if_neg q, if_neg q]
  rw [akE]
  rintro _ rfl
  have x2 : gx [63, 97, 98, 99, 100, 105] m m2 := fun a ha => (y1 a (fun y => ha (by
    rcases List.mem_cons.mp y with y | y
    · rw [y]
      decide
    · rw [List.mem_singleton.mp y]
      decide))).trans (x1 a (fun y => ha (List.mem_append_left [105] y)))
  have f64 : m2 63 64 = m 63 64 := (y2 64 (by decide)).trans (o1 64 (by decide))
  have mx2 : gk_mx G z t U s m2 := gk_mx_x y1 (by decide) (fun x hx => y2 x (by omega)) mx1
  rw [f64]
  refine ⟨by omega, ?_⟩
  -- the memory at which counting begins
  have b63 : ∀ x, x ≠ 64 → x ≠ 66 → gh_u (gh_u m2 63 66 0) 63 64 (m 63 64 + 1) 63 x = m2 63 x := fun x a b => by
    rw [gh_u_i a, gh_u_i b]
  have b64 : gh_u (gh_u m2 63 66 0) 63 64 (m 63 64 + 1) 63 64 = m 63 64 + 1 := gh_u_s _ _ _ _
  have b66 : gh_u (gh_u m2 63 66 0) 63 64 (m 63 64 + 1) 63 66 = 0 := by
    rw [gh_u_i (by decide), gh_u_s]
  have bx : gx [63] m2 (gh_u (gh_u m2 63 66 0) 63 64 (m 63 64 + 1)) := gx_u (gx_one _ _ _ _) (by decide)
  generalize hm3 : gh_u (gh_u m2 63 66 0) 63 64 (m 63 64 + 1) = m3 at *
  have e105 : m3 105 = m2 105 := bx 105 (by decide)
  have e106 : m3 106 = m 106 := (bx 106 (by decide)).trans (x2 106 (by decide))
  have loop : ∀ m4, gk_ps G z t (gk_nk n i j 0) (m 63 64 + 1) (gk_U G z m2) m2 m4 → gh_M0 (fun K72 m => f_Model_countTrees_72 (gk_nk n i j 0) Q K72 m) m4 := fun m4 ps4 => by
    have Ule := gk_U_le (G := G) (z := z) (m := m2)
    refine gk_pileLoop hG e1 mx2 vak (by omega) ps4 (fun m5 ps5 cnt => ?_)
    obtain ⟨p1, p2, ⟨p3, p3'⟩, ⟨p4, p4'⟩, p5, p6, p7⟩ := ps5
    have ev : m5 105 (gk_nk n i j 0) = gk_C G z t n i j (fun _ => False) := by
      rcases p3 _ vak with y | y
      · omega
      · rw [y, vC]
        exact gk_C_nil hG e1 n0 n1
    rw [ev]
    refine H m5 ?_ (fun x a b c' d' => (p2 x c' d').trans ((y2 x b).trans (o1 x a))) ?_ ?_ ?_ ?_ (gk_mx_x p1 (by decide) (fun x hx => p2 x (by omega) (by omega)) mx2) ⟨fun _ => ⟨p3, p3'⟩, p4, p4'⟩ (by omega) cnt
    · intro a ha
      refine (p1 a (fun y => ha ?_)).trans (x2 a (fun y => ha ?_))
      · rcases List.mem_cons.mp y with y | y
        · rw [y]
          decide
        · exact List.mem_append_right [63, 97, 98, 99, 100] y
      · exact List.mem_append_left [106, 107, 108] y
    · rw [p2 52 (by decide) (by decide), y2 52 (by decide)]
      exact l1
    · rw [p2 61 (by decide) (by decide)]
      exact y3
    · rw [p2 52 (by decide) (by decide), y2 52 (by decide)]
      exact l2
    · rw [p2 61 (by decide) (by decide)]
      exact y4
  have ct3 : gk_ct G z t m3 := gk_ct_x e105 y5
  have dn3 : gk_dn G z t m3 := fun k vk w r d p q r0 r1 ro d0 d1 row pq qj => by
    rw [e105] at w
    exact gk_nd_x e105 (y6 k vk w r d p q r0 r1 ro d0 d1 row pq qj)
  have U3 := gk_U_x (G := G) (z := z) e105
  refine ⟨fun _ => ⟨vak.1, vak.2.1, fun _ => ⟨vak.1, vak.2.1⟩⟩, fun c => loop m3 ⟨gx_sub bx (by decide), b63, ⟨ct3, dn3⟩, ⟨fun x => ?_, by omega⟩, ⟨by omega, fun x a b => by omega⟩, ⟨fun y => by omega, fun _ => ?_⟩, ?_⟩, fun c => ⟨vak.1, vak.2.1, by omega, by omega, by omega, loop _ ⟨gx_u (gx_u (gx_u (gx_sub bx (by decide)) (by decide)) (by decide)) (by decide), fun x a b => ?_, ⟨?_, ?_⟩, ⟨fun x => ?_, ?_⟩, ⟨?_, fun x a b => ?_⟩, ⟨fun y => ?_, fun y => ?_⟩, ?_⟩⟩⟩
  · rw [e106, b64]
    have := co2 x
    omega
  · rcases c with c | c | c
    · have := vak.1
      omega
    · omega
    · rw [e106, b64] at c
      have := co2 (gk_nk n i j 0)
      omega
  · rw [gk_g_f (fun y => by omega), b64, U3]
    omega
  · rw [gh_u_i b, gh_u_a (by decide), gh_u_a (by decide)]
    exact b63 x a b
  · refine gk_ct_x (m := m3) ?_ ct3
    rw [gm_u_row2 (by decide), gm_u_row2 (by decide), gm_u_row2 (by decide)]
  · have e : (gh_u (gh_u (gh_u m3 106 (gk_nk n i j 0) (m3 63 64)) 107 (m3 63 66) (gk_nk n i j 0)) 63 66 (m3 63 66 + 1)) 105 = m3 105 := by
      rw [gm_u_row2 (by decide), gm_u_row2 (by decide), gm_u_row2 (by decide)]
    intro k vk w r d p q r0 r1 ro d0 d1 row pq qj
    rw [e] at w
    exact gk_nd_x e (dn3 k vk w r d p q r0 r1 ro d0 d1 row pq qj)
  · have e64 : (gh_u (gh_u (gh_u m3 106 (gk_nk n i j 0) (m3 63 64)) 107 (m3 63 66) (gk_nk n i j 0)) 63 66 (m3 63 66 + 1)) 63 64 = m 63 64 + 1 := by
      rw [gh_u_i (by decide), gh_u_a (by decide), gh_u_a (by decide), b64]
    rw [e64, gh_u_a (by decide : (106 : Int) ≠ 63), gh_u_a (by decide : (106 : Int) ≠ 107)]
    by_cases q : x = gk_nk n i j 0
    · rw [q, gh_u_s, b64]
      exact Int.le_refl _
    · rw [gh_u_i q, e106]
      have := co2 x
      omega
  · rw [gh_u_i (by decide), gh_u_a (by decide), gh_u_a (by decide), b64]
    omega
  · rw [gh_u_s, b66]
    decide
  · rw [gh_u_s, b66] at b
    rw [gh_u_a (by decide), b66]
    have x0 : x = 0 := by omega
    rw [x0, gh_u_s]
    have := gk_kr_le z8 vak
    exact ⟨vak, by omega⟩
  · rw [gh_u_a (by decide), b66, gh_u_s]
  · rw [gh_u_s, b66] at y
    omega
  · have g80 : gk_g (gh_u (gh_u (gh_u m3 106 (gk_nk n i j 0) (m3 63 64)) 107 (m3 63 66) (gk_nk n i j 0)) 63 66 (m3 63 66 + 1)) ≤ 80 := by
      by_cases q : 0 < (gh_u (gh_u (gh_u m3 106 (gk_nk n i j 0) (m3 63 64)) 107 (m3 63 66) (gk_nk n i j 0)) 63 66 (m3 63 66 + 1)) 63 66 ∧ (gh_u (gh_u (gh_u m3 106 (gk_nk n i j 0) (m3 63 64)) 107 (m3 63 66) (gk_nk n i j 0)) 63 66 (m3 63 66 + 1)) 105 ((gh_u (gh_u (gh_u m3 106 (gk_nk n i j 0) (m3 63 64)) 107 (m3 63 66) (gk_nk n i j 0)) 63 66 (m3 63 66 + 1)) 107 ((gh_u (gh_u (gh_u m3 106 (gk_nk n i j 0) (m3 63 64)) 107 (m3 63 66) (gk_nk n i j 0)) 63 66 (m3 63 66 + 1)) 63 66 - 1)) < 0
      · rw [gk_g_t q, gh_u_s, b66]
        have e0 : (0 : Int) + 1 - 1 = 0 := by decide
        rw [e0, gh_u_a (by decide), gh_u_s]
        exact gk_kr_le z8 vak
      · rw [gk_g_f q]
        exact Nat.le_refl _
    have e : (gh_u (gh_u (gh_u m3 106 (gk_nk n i j 0) (m3 63 64)) 107 (m3 63 66) (gk_nk n i j 0)) 63 66 (m3 63 66 + 1)) 105 = m3 105 := by
      rw [gm_u_row2 (by decide), gm_u_row2 (by decide), gm_u_row2 (by decide)]
    have e64 : (gh_u (gh_u (gh_u m3 106 (gk_nk n i j 0) (m3 63 64)) 107 (m3 63 66) (gk_nk n i j 0)) 63 66 (m3 63 66 + 1)) 63 64 = m 63 64 + 1 := by
      rw [gh_u_i (by decide), gh_u_a (by decide), gh_u_a (by decide), b64]
    rw [gk_U_x (G := G) (z := z) e, U3, e64]
    omega
