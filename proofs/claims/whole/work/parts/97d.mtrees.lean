/-! TREES: the model's answer -/
theorem gk_pileLoop {G : gm_G} {z : Int} {t : Int → Int} {U : Int → Prop} {s : Prop} {E : Int} {m m0 : gh_M} {Q : Int → gh_M → Prop} {ak a0 : Int} {U0 : Nat} (hG : gm_ok G) (e1 : gm_Ecl G E) (mx : gk_mx G z t U s m) (vak : gk_vk G z ak) (ha : a0 + 80 + 82 * (U0 : Int) < 2147483000) (ps0 : gk_ps G z t ak a0 U0 m m0) (H : ∀ m1, gk_ps G z t ak a0 U0 m m1 → 0 ≤ m1 105 ak → Q (m1 105 ak) m1) : gh_M0 (fun K72 m => f_Model_countTrees_72 ak Q K72 m) m0 := by
  have hN := hG.2.1
  have hR := hG.2.2.2.1
  have z8 := mx.2.1.2.2.1
  refine ⟨fun m1 => gk_ps G z t ak a0 U0 m m1, fun m1 => gk_mu G z m1, ps0, ?_⟩
  intro m1 ps
  have ps' := ps
  obtain ⟨a1, a2, ⟨a3, a3'⟩, ⟨a4, a4'⟩, a5, a6, a7⟩ := ps
  unfold f_Model_countTrees_72
  refine ⟨fun c => ⟨vak.1, vak.2.1, H m1 ps' (a6.2 (by have := a5.1; omega))⟩, fun c => ?_⟩
  have topv := a5.2 (m1 63 66 - 1) (by omega) (by omega)
  obtain ⟨w1, w2, w3, w4, w5, w6, w7⟩ := gk_vk_C topv.1
  have v1 := topv.1.1
  have v2 := topv.1.2.1
  have v6 := topv.1.2.2.2.2.2.1
  refine ⟨by omega, by omega, by omega, ?_⟩
  rintro _ rfl
  refine ⟨v1, ?_⟩
  rintro _ rfl
  refine ⟨v1, by omega, by omega, ?_⟩
  rintro _ rfl
  refine ⟨v1, by omega, ?_⟩
  rintro _ rfl
  refine ⟨v1, ?_⟩
  rintro _ rfl
  rintro _ rfl
  -- the set with the name itself
  have hA : gbs 8 (gh_ior_f (m1 107 (m1 63 66 - 1) % 256) (gh_ishl_f 1 (m1 107 (m1 63 66 - 1) / 20736))) := gbs_or (by decide) w6 (gbs_one w1 (by omega) (by decide))
  have bA : ∀ x, 0 ≤ x → (gb (gh_ior_f (m1 107 (m1 63 66 - 1) % 256) (gh_ishl_f 1 (m1 107 (m1 63 66 - 1) / 20736))) x ↔ gb (m1 107 (m1 63 66 - 1) % 256) x ∨ x = m1 107 (m1 63 66 - 1) / 20736) := fun x x0 => by
    rw [gb_ior (n := 8) (by decide) w6 (gbs_one w1 (by omega) (by decide)), gb_ishl1 w1 (by omega) x0]
  have bA' : ∀ x, gb (m1 107 (m1 63 66 - 1) % 256) x → gb (gh_ior_f (m1 107 (m1 63 66 - 1) % 256) (gh_ishl_f 1 (m1 107 (m1 63 66 - 1) / 20736))) x := fun x y => (gb_ior (n := 8) (by decide) w6 (gbs_one w1 (by omega) (by decide))).mpr (Or.inl y)
  have rk1 : gk_rk (m1 107 (m1 63 66 - 1) / 256 % 81 / 9) (m1 107 (m1 63 66 - 1) / 256 % 9) (gb (gh_ior_f (m1 107 (m1 63 66 - 1) % 256) (gh_ishl_f 1 (m1 107 (m1 63 66 - 1) / 20736)))) < gk_kr (m1 107 (m1 63 66 - 1)) := gk_rk_up bA' w1 (by omega) v6 ((bA _ w1).mpr (Or.inr rfl))
  generalize hAA : gh_ior_f (m1 107 (m1 63 66 - 1) % 256) (gh_ishl_f 1 (m1 107 (m1 63 66 - 1) / 20736)) = A at *
  have keep : ∀ m2, gx [63, 105, 106, 107, 108] m m2 → (∀ x, x ≠ 64 → x ≠ 66 → m2 63 x = m 63 x) → gk_mx G z t U s m2 := fun m2 hx h63 => gk_mx_x hx (by decide) (fun x hx => h63 x (by omega) (by omega)) mx
  have mx1 := keep m1 a1 a2
  obtain ⟨g1, g2, g3, g4⟩ := mx1.2.2.2 (m1 107 (m1 63 66 - 1) / 20736) w1 w2
  refine ⟨v1, v2, fun m2 => (m2 = m1 ∧ 0 ≤ m1 105 (m1 107 (m1 63 66 - 1))) ∨ (m1 105 (m1 107 (m1 63 66 - 1)) < 0 ∧ gk_ws G z t m1 (m1 107 (m1 63 66 - 1) / 20736) (m1 107 (m1 63 66 - 1) / 256 % 81 / 9) (m1 107 (m1 63 66 - 1) / 256 % 9) A (gk_kr (m1 107 (m1 63 66 - 1))) (fun _ _ _ _ => True) m2), fun m2 h2 => ⟨fun m3 => gk_ps G z t ak a0 U0 m m3 ∧ gk_mu G z m3 < gk_mu G z m1, fun m3 h3 => h3, fun c2 => ?_, fun c2 => ?_⟩, fun c1 => ?_, fun c1 => Or.inl ⟨rfl, by omega⟩⟩
  rotate_left
  · -- keys were piled
    rcases h2 with ⟨e, _⟩ | ⟨un, b1, b2, b3, b4, b5, b6, b7, b8⟩
    · rw [e] at c2
      exact absurd rfl c2
    have gl := gct_le (fun c => decide (m2 106 (gk_kf (m1 107 (m1 63 66 - 1) / 256 % 81 / 9) (m1 107 (m1 63 66 - 1) / 256 % 9) A c) = m2 63 64)) 648
    have e105 : m2 105 = m1 105 := b1 105 (by decide)
    have ct : (∀ x, 0 ≤ x → x < m2 63 66 → gk_vk G z (m2 107 x) ∧ x + 648 * (gk_kr (m2 107 x) : Int) ≤ 51840) := fun x x0 x1 => by
      by_cases q : x < m1 63 66
      · rw [b6 x q]
        exact a5.2 x x0 q
      · obtain ⟨u1, u2, u3⟩ := b7 x (by omega) x1
        have := topv.2
        exact ⟨u1, by omega⟩
    obtain ⟨u1, u2, u3⟩ := b7 (m2 63 66 - 1) (by omega) (by omega)
    have gt1 : gk_g m1 = gk_kr (m1 107 (m1 63 66 - 1)) := gk_g_t ⟨by omega, un⟩
    have gt2 : gk_g m2 = gk_kr (m2 107 (m2 63 66 - 1)) := gk_g_t ⟨by omega, by rw [e105]; exact u3⟩
    have Ue := gk_U_x (G := G) (z := z) e105
    refine ⟨⟨gx_tr (T := [63, 105, 106, 107, 108]) a1 (gx_sub b1 (by decide)), fun x y1 y2 => (b2 x y1 y2).trans (a2 x y1 y2), ⟨gk_ct_x e105 a3, fun k vk hk r d p q r0 r1 ro d0 d1 row pq qj => ?_⟩, ⟨b4, by omega⟩, ⟨by omega, ct⟩, ⟨fun _ => ?_, fun y => by omega⟩, ?_⟩, ?_⟩
    · rw [e105] at hk
      exact gk_nd_x e105 (a3' k vk hk r d p q r0 r1 ro d0 d1 row pq qj)
    · rw [b6 0 (by omega)]
      exact a6.1 (by omega)
    · rw [gt2, Ue]
      rw [gt1] at a7
      omega
    · rw [gk_mu_t (m := m2) ⟨by omega, by rw [e105]; exact u3⟩, gk_mu_t (m := m1) ⟨by omega, un⟩, Ue]
      omega
  · -- what it needs is piled
    exact gk_wantFor hG mx1 w1 w2 w3 w4 w5 hA rk1 a4 (by omega) a4' (by have := topv.2; omega) (by omega) (fun m2 ws => Or.inr ⟨by omega, ws⟩)
  · -- all that it needs is counted
    refine ⟨v1, v2, fun _ => ⟨v1, v2⟩, ?_⟩
    rcases h2 with ⟨e, cnt⟩ | ⟨un, b1, b2, b3, b4, b5, b6, b7, b8⟩
    · rw [e]
      rintro _ rfl
      refine ⟨w1, by omega, ?_⟩
      rintro _ rfl
      rw [if_neg (by omega)]
      refine ⟨fun v r m3 => v = m1 105 (m1 107 (m1 63 66 - 1)) ∧ r = m1 77 (m1 107 (m1 63 66 - 1) / 20736) ∧ m3 = m1, fun _ _ _ => 0, ⟨rfl, rfl, rfl⟩, ?_⟩
      rintro v r m3 ⟨hv, hr, hm⟩
      rw [hm, hv, hr]
      unfold f_Model_countTrees_211
      refine ⟨w1, by omega, w1, by omega, by omega, fun v m4 => v = m1 105 (m1 107 (m1 63 66 - 1)) ∧ m4 = m1, fun v m4 ⟨hv4, hm4⟩ => ?_, fun _ => ⟨v1, v2⟩, fun c3 => absurd c3.2 (by omega), fun _ => ⟨rfl, rfl⟩⟩
      rw [hm4, hv4]
      refine ⟨v1, v2, by omega, ?_⟩
      have hvC : m1 105 (m1 107 (m1 63 66 - 1)) = gk_kC G z t (m1 107 (m1 63 66 - 1)) := by
        rcases a3 _ topv.1 with y | y
        · omega
        · exact y
      exact gk_pop hG z8 ps' (by omega) (gx_sub (S := []) gx_rf (by decide)) (fun _ _ => rfl) (fun _ _ => rfl) (by omega) a4' a4 hvC (fun _ => ⟨rfl, rfl⟩) (fun r d p q r0 r1 ro d0 d1 row pq qj => by
        rw [hAA]
        have := a3' _ topv.1 cnt r d p q r0 r1 ro d0 d1 row pq qj
        rw [hAA] at this
        exact this)
    · have e105 : m2 105 = m1 105 := b1 105 (by decide)
      have c2' : m2 63 66 = m1 63 66 := c2
      obtain ⟨b81, b82⟩ := b8 c2'
      rintro _ rfl
      rw [e105, if_pos un]
      refine ⟨w1, by omega, ?_⟩
      rintro _ rfl
      have b177 : m2 77 = m1 77 := b1 77 (by decide)
      have b178 : m2 78 = m1 78 := b1 78 (by decide)
      rw [b177]
      have nd : ∀ r d p q, 0 ≤ r → r < gm_R G → gm_o G r = m1 107 (m1 63 66 - 1) / 20736 → 0 ≤ d → d < gm_s G r → gt_row G z t (gt_M G z t) r d (m1 107 (m1 63 66 - 1) / 256 % 81 / 9) p → p ≤ q → q ≤ m1 107 (m1 63 66 - 1) / 256 % 9 → gk_nd G z t m1 r d p q (m1 107 (m1 63 66 - 1) / 256 % 81 / 9) (m1 107 (m1 63 66 - 1) / 256 % 9) A := fun r d p q r0 r1 ro d0 d1 row pq qj =>
        b82 r d p q trivial r0 r1 ro d0 d1 (gt_row_M hG (by omega) row).1 row pq qj
      refine ⟨fun v r m3 => m1 77 (m1 107 (m1 63 66 - 1) / 20736) ≤ r ∧ r ≤ m1 77 (m1 107 (m1 63 66 - 1) / 20736) + m1 78 (m1 107 (m1 63 66 - 1) / 20736) ∧ gx [108] m2 m3 ∧ v = min (gsum (fun r => gt_if (gm_o G r = m1 107 (m1 63 66 - 1) / 20736) (gk_R G z t r (m1 107 (m1 63 66 - 1) / 256 % 81 / 9) (m1 107 (m1 63 66 - 1) / 256 % 9) (fun x => gb (m1 107 (m1 63 66 - 1) % 256) x ∨ x = m1 107 (m1 63 66 - 1) / 20736) 0 (m1 107 (m1 63 66 - 1) / 256 % 81 / 9))) r.toNat) 1000000000000000000, fun _ r _ => (30 - r).toNat, ⟨Int.le_refl _, by omega, gx_rf, ?_⟩, ?_⟩
      · rw [gsum_z _ (fun r r0 r1 => gt_if_f (fun y => by
          have := (g4 r r0 (by omega)).mp y
          omega))]
        decide
      rintro v r m3 ⟨ra, rb, x3, hv⟩
      have x13 : gx [63, 106, 107, 108] m1 m3 := fun a ha => (x3 a (fun y => ha (by rw [List.mem_singleton.mp y]; decide))).trans (b1 a (fun y => ha (by
        rcases List.mem_cons.mp y with y | y
        · rw [y]
          decide
        · rcases List.mem_cons.mp y with y | y
          · rw [y]
            decide
          · rw [List.mem_singleton.mp y]
            decide)))
      have e63 : m3 63 = m2 63 := x3 63 (by decide)
      have mx3 : gk_mx G z t U s m3 := keep m3 (gx_tr (T := [63, 105, 106, 107, 108]) a1 (gx_sub x13 (by decide))) (fun x y1 y2 => by rw [e63, b2 x y1 y2]; exact a2 x y1 y2)
      have e3105 : m3 105 = m1 105 := x13 105 (by decide)
      have sm0 : 0 ≤ gsum (fun r => gt_if (gm_o G r = m1 107 (m1 63 66 - 1) / 20736) (gk_R G z t r (m1 107 (m1 63 66 - 1) / 256 % 81 / 9) (m1 107 (m1 63 66 - 1) / 256 % 9) (fun x => gb (m1 107 (m1 63 66 - 1) % 256) x ∨ x = m1 107 (m1 63 66 - 1) / 20736) 0 (m1 107 (m1 63 66 - 1) / 256 % 81 / 9))) r.toNat := gsum_nn _ (fun r' r0 r1 => by
        (try dsimp only)
        by_cases q : gm_o G r' = m1 107 (m1 63 66 - 1) / 20736
        · rw [gt_if_t q]
          exact (gk_R_b hG r0 (by omega) (Int.le_refl _)).1
        · rw [gt_if_f q]
          exact Int.le_refl _)
      unfold f_Model_countTrees_211
      rw [x13 77 (by decide), x13 78 (by decide), e3105]
      refine ⟨w1, by omega, w1, by omega, by omega, fun v m4 => gx [108] m2 m4 ∧ v = gk_kC G z t (m1 107 (m1 63 66 - 1)), fun v m4 ⟨x4, hv4⟩ => ?_, fun _ => ⟨v1, v2⟩, fun c3 => ?_, fun c3 => ⟨x3, ?_⟩⟩
      · have e463 : m4 63 = m2 63 := x4 63 (by decide)
        have x14 : gx [63, 106, 107, 108] m1 m4 := fun a ha => (x4 a (fun y => ha (by rw [List.mem_singleton.mp y]; decide))).trans (b1 a (fun y => ha (by
          rcases List.mem_cons.mp y with y | y
          · rw [y]
            decide
          · rcases List.mem_cons.mp y with y | y
            · rw [y]
              decide
            · rw [List.mem_singleton.mp y]
              decide)))
        refine ⟨v1, v2, by rw [e463]; omega, ?_⟩
        exact gk_pop hG z8 ps' (by omega) x14 (fun x y => by rw [x4 107 (by decide)]; exact b6 x y) (fun x y => by
          rw [e463]
          by_cases q : x = 66
          · rw [q]
            exact c2'
          · exact b2 x y q) (by rw [e463]; omega) (by rw [e463]; omega) (fun x => by rw [e463, x4 106 (by decide)]; exact b4 x) hv4 (fun y => absurd y (by omega)) (fun r d p q r0 r1 ro d0 d1 row pq qj => by
          rw [hAA]
          exact nd r d p q r0 r1 ro d0 d1 row pq qj)
      · have r0 : 0 ≤ r := by omega
        have r1 : r < gm_R G := by omega
        have ro : gm_o G r = m1 107 (m1 63 66 - 1) / 20736 := (g4 r r0 r1).mpr ⟨ra, c3.1⟩
        refine gk_layWays hG e1 mx3 (gk_ct_x e3105 a3) r0 r1 w3 w4 w5 hA (fun d p q d0 d1 row pq qj => gk_nd_x e3105 (nd r d p q r0 r1 ro d0 d1 row pq qj)) (fun m4 x4 h4 => ⟨by omega, by omega, ⟨rfl, rfl⟩, ?_⟩)
        have h40 := h4 0 _ (Int.le_refl _) (hG.2.2.2.2.1 r r0 r1).2.2.1 (Int.le_refl _) w4 rfl
        have ix0 : 9 * 0 + m1 107 (m1 63 66 - 1) / 256 % 81 / 9 = m1 107 (m1 63 66 - 1) / 256 % 81 / 9 := by omega
        rw [ix0] at h40
        rw [h40]
        have Rc := gk_R_cg hG (z := z) (t := t) e1 (r := r) (i := m1 107 (m1 63 66 - 1) / 256 % 81 / 9) (j := m1 107 (m1 63 66 - 1) / 256 % 9) (d := 0) (k := m1 107 (m1 63 66 - 1) / 256 % 81 / 9) r0 r1 (Int.le_refl _) (Int.le_refl _) (A := gb A) (B := fun x => gb (m1 107 (m1 63 66 - 1) % 256) x ∨ x = m1 107 (m1 63 66 - 1) / 20736) (fun x x0 _ => bA x x0)
        have Rb := gk_R_b hG (z := z) (t := t) (i := m1 107 (m1 63 66 - 1) / 256 % 81 / 9) (j := m1 107 (m1 63 66 - 1) / 256 % 9) (B := gb A) (d := 0) (k := m1 107 (m1 63 66 - 1) / 256 % 81 / 9) r0 r1 (Int.le_refl _)
        rintro _ rfl
        refine ⟨by omega, ⟨by omega, by omega, gx_tr (T := [108]) x3 x4, ?_⟩, by (try dsimp only); omega⟩
        have e : (r + 1).toNat = r.toNat + 1 := by omega
        rw [e, gk_mplus (by omega) (by omega) Rb.1 Rb.2, Rc]
        show _ = min (gsum _ r.toNat + gt_if (gm_o G (r.toNat : Int) = m1 107 (m1 63 66 - 1) / 20736) (gk_R G z t (r.toNat : Int) (m1 107 (m1 63 66 - 1) / 256 % 81 / 9) (m1 107 (m1 63 66 - 1) / 256 % 9) (fun x => gb (m1 107 (m1 63 66 - 1) % 256) x ∨ x = m1 107 (m1 63 66 - 1) / 20736) 0 (m1 107 (m1 63 66 - 1) / 256 % 81 / 9))) 1000000000000000000
        have e2 : (r.toNat : Int) = r := by omega
        rw [Rc] at Rb
        rw [e2, gt_if_t ro, hv]
        omega
      · have er : r = m1 77 (m1 107 (m1 63 66 - 1) / 20736) + m1 78 (m1 107 (m1 63 66 - 1) / 20736) := Classical.byContradiction (fun y => c3 ⟨by omega, un⟩)
        have all : gsum (fun r => gt_if (gm_o G r = m1 107 (m1 63 66 - 1) / 20736) (gk_R G z t r (m1 107 (m1 63 66 - 1) / 256 % 81 / 9) (m1 107 (m1 63 66 - 1) / 256 % 9) (fun x => gb (m1 107 (m1 63 66 - 1) % 256) x ∨ x = m1 107 (m1 63 66 - 1) / 20736) 0 (m1 107 (m1 63 66 - 1) / 256 % 81 / 9))) (gm_R G).toNat = gsum (fun r => gt_if (gm_o G r = m1 107 (m1 63 66 - 1) / 20736) (gk_R G z t r (m1 107 (m1 63 66 - 1) / 256 % 81 / 9) (m1 107 (m1 63 66 - 1) / 256 % 9) (fun x => gb (m1 107 (m1 63 66 - 1) % 256) x ∨ x = m1 107 (m1 63 66 - 1) / 20736) 0 (m1 107 (m1 63 66 - 1) / 256 % 81 / 9))) r.toNat := by
          have e : (gm_R G).toNat = r.toNat + ((gm_R G).toNat - r.toNat) := by omega
          rw [e]
          exact gsum_ext _ (fun x x0 x1 => gt_if_f (fun y => by
            have := (g4 x (by omega) (by omega)).mp y
            omega))
        unfold gk_kC
        rw [gk_eq2 hG w1 w2 w3 w4 w5 (by omega) v6, all, hv]
