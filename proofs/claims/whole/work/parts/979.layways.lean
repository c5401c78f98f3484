/-! TREES: the model's table of ways -/
theorem gk_ct_x {G : gm_G} {z : Int} {t : Int → Int} {m m2 : gh_M} (e : m2 105 = m 105) (h : gk_ct G z t m) : gk_ct G z t m2 := by
  unfold gk_ct
  rw [e]
  exact h
theorem gk_nd_x {G : gm_G} {z : Int} {t : Int → Int} {m m2 : gh_M} (e : m2 105 = m 105) {r d p q i j A : Int} (h : gk_nd G z t m r d p q i j A) : gk_nd G z t m2 r d p q i j A := by
  unfold gk_nd
  rw [e]
  exact h
theorem gk_layWays {m : gh_M} {G : gm_G} {z : Int} {t : Int → Int} {U : Int → Prop} {s : Prop} {E : Int} {Q : Int → gh_M → Prop} {r i j A : Int} (hG : gm_ok G) (e1 : gm_Ecl G E) (mx : gk_mx G z t U s m) (ct : gk_ct G z t m) (r0 : 0 ≤ r) (r1 : r < gm_R G) (i0 : 0 ≤ i) (ij : i ≤ j) (jz : j ≤ z) (hA : gbs 8 A) (hnd : ∀ d p q, 0 ≤ d → d < gm_s G r → gt_row G z t (gt_M G z t) r d i p → p ≤ q → q ≤ j → gk_nd G z t m r d p q i j A) (H : ∀ m2, gx [108] m m2 → (∀ d p, 0 ≤ d → d ≤ gm_s G r → i ≤ p → p ≤ j → gt_row G z t (gt_M G z t) r d i p → m2 108 (9 * d + p) = gk_R G z t r i j (gb A) d p) → Q 0 m2) : w_Model_layWays r i j A m Q := by
  have hN := hG.2.1
  have hR := hG.2.2.2.1
  have z8 := mx.2.1.2.2.1
  obtain ⟨p1, p2, p3, p4, p5⟩ := hG.2.2.2.2.1 r r0 r1
  obtain ⟨eo, es, ep⟩ := mx.1.2.2 r r0 r1
  have keep : ∀ m1, gx [108] m m1 → gk_mx G z t U s m1 := fun m1 hx => gk_mx_x hx (by decide) (fun x _ => by rw [hx 63 (by decide)]) mx
  refine ⟨fun k m1 => 0 ≤ k ∧ k ≤ 45 ∧ gx [108] m m1 ∧ ∀ x, 0 ≤ x → x < k → m1 108 x = if x = 9 * gm_s G r + j then 1 else 0, fun k _ => (50 - k).toNat, ⟨by omega, by omega, gx_rf, fun x a b => by omega⟩, ?_⟩
  rintro k m1 ⟨k0, k1, hx, hk⟩
  unfold f_Model_layWays_3
  rw [hx 80 (by decide), es]
  refine ⟨fun c => ⟨r0, by omega, by omega, by omega, k0, by omega, by omega, ⟨by omega, by omega, gx_u hx (List.mem_singleton.mpr rfl), fun x x0 x1 => ?_⟩, by (try dsimp only); omega⟩, fun c => ⟨r0, by omega, by omega, ?_⟩⟩
  · by_cases q : x = k
    · rw [q, gh_u_s]
    · rw [gh_u_i q]
      exact hk x x0 (by omega)
  rintro _ rfl
  refine ⟨fun d m2 => -1 ≤ d ∧ d < gm_s G r ∧ gx [108] m m2 ∧ ∀ d' p, d < d' → d' ≤ gm_s G r → i ≤ p → p ≤ j → gt_row G z t (gt_M G z t) r d' i p → m2 108 (9 * d' + p) = gk_R G z t r i j (gb A) d' p, fun d _ => (d + 1).toNat, ⟨by omega, by omega, hx, fun d' p a b c' d'' w => ?_⟩, ?_⟩
  · have e : d' = gm_s G r := by omega
    rw [e, gk_R_e, hk _ (by omega) (by omega)]
    by_cases q : p = j
    · rw [if_pos q, if_pos (by omega)]
    · rw [if_neg q, if_neg (by omega)]
  rintro d m2 ⟨d0, d1, hx2, hd⟩
  unfold f_Model_layWays_54
  refine ⟨fun c2 => H m2 hx2 (fun d' p a b c' d'' w => hd d' p (by omega) b c' d'' w), fun c2 => ?_⟩
  refine ⟨fun p m3 => i ≤ p ∧ p ≤ j + 1 ∧ gx [108] m m3 ∧ ∀ d' p', (d < d' ∨ (d' = d ∧ p' < p)) → d' ≤ gm_s G r → i ≤ p' → p' ≤ j → gt_row G z t (gt_M G z t) r d' i p' → m3 108 (9 * d' + p') = gk_R G z t r i j (gb A) d' p', fun p _ => (20 - p).toNat, ⟨by omega, by omega, hx2, fun d' p' a b c' d'' w => hd d' p' (by omega) b c' d'' w⟩, ?_⟩
  rintro p m3 ⟨q0, q1, hx3, hp⟩
  unfold f_Model_layWays_62
  refine ⟨fun c3 => ?_, fun c3 => ⟨by omega, ⟨by omega, by omega, hx3, fun d' p' a b c' d'' w => hp d' p' (by omega) b c' d'' w⟩, by (try dsimp only); omega⟩⟩
  have e105 : m3 105 = m 105 := hx3 105 (by decide)
  have mx3 := keep m3 hx3
  have ct3 := gk_ct_x e105 ct
  refine ⟨fun v q => p ≤ q ∧ q ≤ j + 1 ∧ (gt_row G z t (gt_M G z t) r d i p → v = min (gsum (fun x => min (gk_own G z t (gk_C G z t) r i j (gb A) d p (p + x) * gk_R G z t r i j (gb A) (d + 1) (p + x)) 1000000000000000000) (q - p).toNat) 1000000000000000000), fun _ q => (20 - q).toNat, ⟨by omega, by omega, fun _ => ?_⟩, ?_⟩
  · have : (p - p).toNat = 0 := by omega
    rw [this]
    rfl
  rintro v q ⟨qp, qj, hv⟩
  unfold f_Model_layWays_75
  refine ⟨fun c4 => ⟨by omega, by omega, by omega, by omega, by omega, ?_⟩, fun c4 => ⟨by omega, by omega, by omega, by omega, by omega, ⟨by omega, by omega, gx_u hx3 (List.mem_singleton.mpr rfl), fun d' p' o b c' d'' w => ?_⟩, by (try dsimp only); omega⟩⟩
  rotate_left
  · by_cases u : d' = d ∧ p' = p
    · rw [u.1, u.2, gh_u_s]
      rw [u.1, u.2] at w
      have e : q = j + 1 := by omega
      rw [hv w, e, gk_R_s (by omega) d1]
    · rw [gh_u_i (by omega)]
      exact hp d' p' (by omega) b c' d'' w
  rintro _ rfl
  have ixe : 9 * d + 9 + q = 9 * (d + 1) + q := by omega
  rw [ixe]
  -- the sum, one term more
  have ob := gk_own_nn (G := G) (z := z) (t := t) (T := gk_C G z t) (fun n i j A => (gk_C_b hG n i j A).1) r i j (gb A) d p q
  have ob1 : gk_own G z t (gk_C G z t) r i j (gb A) d p q ≤ 1000000000000000000 := by
    unfold gk_own
    have f01 := gt_ib_01 (P := q = p + 1 ∧ p < z ∧ gb (gm_p G r d) (t p))
    split
    · omega
    · split <;> exact (gk_C_b hG _ _ _ _).2
  have Rb := gk_R_b hG (z := z) (t := t) (i := i) (j := j) (B := gb A) (d := d + 1) (k := q) r0 r1 (by omega)
  have ab := Int.mul_nonneg ob Rb.1
  have g0 : 0 ≤ gsum (fun x => min (gk_own G z t (gk_C G z t) r i j (gb A) d p (p + x) * gk_R G z t r i j (gb A) (d + 1) (p + x)) 1000000000000000000) (q - p).toNat := gsum_nn _ (fun x x0 x1 => by
    have a := gk_own_nn (G := G) (z := z) (t := t) (T := gk_C G z t) (fun n i j A => (gk_C_b hG n i j A).1) r i j (gb A) d p (p + x)
    have b := (gk_R_b hG (z := z) (t := t) (i := i) (j := j) (B := gb A) (d := d + 1) (k := p + x) r0 r1 (by omega)).1
    have := Int.mul_nonneg a b
    (try dsimp only)
    omega)
  have step : (q + 1 - p).toNat = (q - p).toNat + 1 := by omega
  have nxt : ∀ w2, w2 = min (min (gsum (fun x => min (gk_own G z t (gk_C G z t) r i j (gb A) d p (p + x) * gk_R G z t r i j (gb A) (d + 1) (p + x)) 1000000000000000000) (q - p).toNat) 1000000000000000000 + min (gk_own G z t (gk_C G z t) r i j (gb A) d p q * gk_R G z t r i j (gb A) (d + 1) q) 1000000000000000000) 1000000000000000000 → w2 = min (gsum (fun x => min (gk_own G z t (gk_C G z t) r i j (gb A) d p (p + x) * gk_R G z t r i j (gb A) (d + 1) (p + x)) 1000000000000000000) (q + 1 - p).toNat) 1000000000000000000 := by
    intro w2 hw2
    rw [step]
    show w2 = min (gsum _ _ + min (gk_own G z t (gk_C G z t) r i j (gb A) d p (p + ((q - p).toNat : Int)) * gk_R G z t r i j (gb A) (d + 1) (p + ((q - p).toNat : Int))) 1000000000000000000) 1000000000000000000
    have e3 : p + ((q - p).toNat : Int) = q := by omega
    rw [e3, hw2]
    omega
  have rv : gt_row G z t (gt_M G z t) r d i p → gk_own G z t (gk_C G z t) r i j (gb A) d p q ≠ 0 → m3 108 (9 * (d + 1) + q) = gk_R G z t r i j (gb A) (d + 1) q := fun row y =>
    hp (d + 1) q (Or.inl (by omega)) (by omega) (by omega) c4 ((gt_row_s (by omega)).mpr ⟨p, row, gk_own_pm (fun n i j A => gk_C_M) y⟩)
  refine ⟨fun w => gt_row G z t (gt_M G z t) r d i p → w = min (gsum (fun x => min (gk_own G z t (gk_C G z t) r i j (gb A) d p (p + x) * gk_R G z t r i j (gb A) (d + 1) (p + x)) 1000000000000000000) (q + 1 - p).toNat) 1000000000000000000, fun w hw => ⟨by omega, ⟨by omega, by omega, hw⟩, by (try dsimp only); omega⟩, fun c5 row => nxt v ?_, fun c5 => ?_⟩
  · have z0 : gk_own G z t (gk_C G z t) r i j (gb A) d p q * gk_R G z t r i j (gb A) (d + 1) q = 0 := by
      by_cases u : gk_own G z t (gk_C G z t) r i j (gb A) d p q = 0
      · rw [u, Int.zero_mul]
      · rw [← rv row u, c5, Int.mul_zero]
    have := hv row
    rw [z0]
    omega
  · have pe := ep d (by omega) d1
    have e81 : m3 81 (4 * r + d) = gm_p G r d := by
      rw [hx3 81 (by decide)]
      exact pe
    refine ⟨by omega, by omega, by omega, by omega, ?_⟩
    rw [e81]
    refine gk_mcountOf hG e1 mx3 ct3 r0 r1 (by omega) d1 i0 (by omega) qp c4 jz hA (fun y hy => ⟨⟨rfl, rfl⟩, ⟨rfl, rfl⟩, fun row => nxt _ ?_⟩)
    have oe := hy (gk_nd_x e105 (hnd d p q (by omega) d1 row qp c4))
    have hv2 := hv row
    rw [oe]
    have te : x_Model_times (gk_own G z t (gk_C G z t) r i j (gb A) d p q) (m3 108 (9 * (d + 1) + q)) = min (gk_own G z t (gk_C G z t) r i j (gb A) d p q * gk_R G z t r i j (gb A) (d + 1) q) 1000000000000000000 := by
      by_cases u : gk_own G z t (gk_C G z t) r i j (gb A) d p q = 0
      · rw [u, gk_mtimes0, Int.zero_mul]
        decide
      · rw [rv row u]
        exact gk_mtimes ob ob1 Rb.1 Rb.2
    rw [te, gk_mplus (by omega) (by omega) (by omega) (by omega), hv2]
