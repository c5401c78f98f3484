/-! PICKING: the model tells a tree -/
theorem gp_Hm {G : gm_G} (hG : gm_ok G) {z : Int} {t : Int → Int} {r i j A d p q : Int} {m : gh_M} (r0 : 0 ≤ r) (r1 : r < gm_R G) (d0 : 0 ≤ d) (d1 : d < gm_s G r) (ip : i ≤ p) (pq : p ≤ q) (qj : q ≤ j) (tb : ∀ d p, 0 ≤ d → d ≤ gm_s G r → i ≤ p → p ≤ j → gt_row G z t (gt_M G z t) r d i p → m 108 (9 * d + p) = gk_R G z t r i j (gb A) d p) (row : gt_row G z t (gt_M G z t) r d i p) : x_Model_times (gk_own G z t (gk_C G z t) r i j (gb A) d p q) (m 108 (9 * d + 9 + q)) = gp_H G z t r i j A d p (q - p) := by
  have ixe : 9 * d + 9 + q = 9 * (d + 1) + q := by omega
  have ee : p + (q - p) = q := by omega
  have ob := gk_own_nn (G := G) (z := z) (t := t) (T := gk_C G z t) (fun n i j A => (gk_C_b hG n i j A).1) r i j (gb A) d p q
  have ob1 := gk_own_le (G := G) (z := z) (t := t) (T := gk_C G z t) (fun n i j A => (gk_C_b hG n i j A).2) r i j (gb A) d p q
  have Rb := gk_R_b hG (z := z) (t := t) (i := i) (j := j) (B := gb A) (d := d + 1) (k := q) r0 r1 (by omega)
  unfold gp_H
  rw [ixe, ee]
  by_cases u : gk_own G z t (gk_C G z t) r i j (gb A) d p q = 0
  · rw [u, gk_mtimes0, Int.zero_mul]
    decide
  · rw [tb (d + 1) q (by omega) (by omega) (by omega) qj ((gt_row_s (by omega)).mpr ⟨p, row, gk_own_pm (fun n i j A => gk_C_M) u⟩)]
    exact gk_mtimes ob ob1 Rb.1 Rb.2
theorem gp_exch {m : gh_M} {v1 v2 : Int} {Q : Int → gh_M → Prop} (a0 : 0 ≤ v1) (a1 : v1 < 1300) (b0 : 0 ≤ v2) (b1 : v2 < 1300) (H : ∀ m2, gx [111, 112, 113, 114, 115, 116] m m2 → (∀ a x : Int, 111 ≤ a → a ≤ 116 → m2 a x = if x = v2 then m a v1 else if x = v1 then m a v2 else m a x) → Q 0 m2) : w_Model_exchange v1 v2 m Q := by
  unfold w_Model_exchange
  refine ⟨a0, a1, ?_⟩
  intro v3 h3
  refine ⟨a0, a1, ?_⟩
  intro v4 h4
  refine ⟨a0, a1, ?_⟩
  intro v5 h5
  refine ⟨a0, a1, ?_⟩
  intro v6 h6
  refine ⟨a0, a1, ?_⟩
  intro v7 h7
  refine ⟨a0, a1, ?_⟩
  intro v8 h8
  refine ⟨b0, b1, a0, a1, b0, b1, a0, a1, b0, b1, a0, a1, b0, b1, a0, a1, b0, b1, a0, a1, b0, b1, a0, a1, b0, b1, b0, b1, b0, b1, b0, b1, b0, b1, b0, b1, ?_⟩
  rw [h3, h4, h5, h6, h7, h8]
  refine H _ (gx_u (gx_u (gx_u (gx_u (gx_u (gx_u (gx_u (gx_u (gx_u (gx_u (gx_u (gx_u gx_rf (by decide)) (by decide)) (by decide)) (by decide)) (by decide)) (by decide)) (by decide)) (by decide)) (by decide)) (by decide)) (by decide)) (by decide)) (fun a x l u => ?_)
  have c : a = 111 ∨ a = 112 ∨ a = 113 ∨ a = 114 ∨ a = 115 ∨ a = 116 := by omega
  by_cases q1 : x = v2
  · rw [if_pos q1, q1]
    rcases c with c | c | c | c | c | c <;> rw [c] <;> simp [gh_u]
  · rw [if_neg q1]
    by_cases q2 : x = v1
    · rw [if_pos q2, q2]
      rw [q2] at q1
      rcases c with c | c | c | c | c | c <;> rw [c] <;> simp [gh_u, q1]
    · rw [if_neg q2]
      rcases c with c | c | c | c | c | c <;> rw [c] <;> simp [gh_u, q1, q2]
theorem gp_openParts {G : gm_G} {z : Int} {t : Int → Int} {U : Int → Prop} {s : Prop} {E : Int} {m : gh_M} {Q : Int → gh_M → Prop} {r i j A lv k T : Int} (hG : gm_ok G) (e1 : gm_Ecl G E) (mx : gk_mx G z t U s m) (ct : gk_ct G z t m) (r0 : 0 ≤ r) (r1 : r < gm_R G) (i0 : 0 ≤ i) (ij : i ≤ j) (jz : j ≤ z) (hA : gbs 8 A) (lv0 : 0 ≤ lv) (lv1 : lv < 1000) (hnd : ∀ d p q, 0 ≤ d → d < gm_s G r → gt_row G z t (gt_M G z t) r d i p → p ≤ q → q ≤ j → gk_nd G z t m r d p q i j A) (tb : ∀ d p, 0 ≤ d → d ≤ gm_s G r → i ≤ p → p ≤ j → gt_row G z t (gt_M G z t) r d i p → m 108 (9 * d + p) = gk_R G z t r i j (gb A) d p) (k0 : 0 ≤ k) (k1 : k < gk_R G z t r i j (gb A) 0 i) (e80 : m 63 80 = T) (T0 : 0 ≤ T) (T1 : T ≤ 244) (H : ∀ (m2 : gh_M) (cu sh : Int → Int) (p l : Int), gp_sh G z t r i j A k cu sh (gm_s G r).toNat p l → gx [63, 111, 112, 113, 114, 115, 116] m m2 → (∀ y, y ≠ 80 → m2 63 y = m 63 y) → m2 63 80 = T + gm_s G r → (∀ a x : Int, 111 ≤ a → a ≤ 116 → x < T → m2 a x = m a x) → (∀ x : Int, 0 ≤ x → x < gm_s G r → gp_at m2 (T + x) (gp_kid G t r i j A (lv + 1) (gm_s G r - 1 - x) (gp_st i cu (gm_s G r - 1 - x)) (cu (gm_s G r - 1 - x)) (sh (gm_s G r - 1 - x)))) → Q 0 m2) : w_Model_openParts r i j A lv k m Q := by
  have hN := hG.2.1
  have hR := hG.2.2.2.1
  have z8 := mx.2.1.2.2.1
  obtain ⟨p1, p2, p3, p4, p5⟩ := hG.2.2.2.2.1 r r0 r1
  unfold w_Model_openParts
  rw [e80]
  intro v8 hv8
  rw [hv8]
  clear hv8 v8
  refine ⟨fun p l d m2 => 0 ≤ d ∧ d ≤ gm_s G r ∧ i ≤ p ∧ p ≤ j ∧ 0 ≤ l ∧ l < gk_R G z t r i j (gb A) d p ∧ gt_row G z t (gt_M G z t) r d i p ∧ gx [63, 111, 112, 113, 114, 115, 116] m m2 ∧ (∀ y, y ≠ 80 → m2 63 y = m 63 y) ∧ m2 63 80 = T + d ∧ (∀ a x : Int, 111 ≤ a → a ≤ 116 → x < T → m2 a x = m a x) ∧ ∃ cu sh : Int → Int, gp_sh G z t r i j A k cu sh d.toNat p l ∧ ∀ x : Int, 0 ≤ x → x < d → gp_at m2 (T + x) (gp_kid G t r i j A (lv + 1) x (gp_st i cu x) (cu x) (sh x)), fun p l d m2 => (10 - d).toNat, ⟨Int.le_refl _, p3, Int.le_refl _, ij, k0, k1, rfl, gx_rf, fun _ _ => rfl, by omega, fun _ _ _ _ _ => rfl, fun _ => 0, fun _ => 0, ⟨rfl, rfl⟩, fun x a b => by omega⟩, ?_⟩
  rintro p l d m2 ⟨d0, d1, ip, pj, l0, l1, row, hx2, o2, e2, b2, cu, sh, hsh, hat⟩
  have mx2 : gk_mx G z t U s m2 := gk_mx_x hx2 (by decide) (fun x x61 => o2 x (by omega)) mx
  have e105 : m2 105 = m 105 := hx2 105 (by decide)
  have e108 : m2 108 = m 108 := hx2 108 (by decide)
  have ct2 := gk_ct_x e105 ct
  obtain ⟨eo, es, ep⟩ := mx2.1.2.2 r r0 r1
  unfold f_Model_openParts_16
  rw [es]
  refine ⟨r0, by omega, fun c => ?_, fun c => ?_⟩
  rotate_left
  · -- the last one first
    have ed : d = gm_s G r := by omega
    rw [ed] at e2 hsh hat
    refine ⟨fun y m3 => 0 ≤ y ∧ 2 * y ≤ gm_s G r ∧ gx [63, 111, 112, 113, 114, 115, 116] m m3 ∧ (∀ y, y ≠ 80 → m3 63 y = m 63 y) ∧ m3 63 80 = T + gm_s G r ∧ (∀ a x : Int, 111 ≤ a → a ≤ 116 → x < T → m3 a x = m a x) ∧ (∀ a x : Int, 111 ≤ a → a ≤ 116 → 0 ≤ x → x < gm_s G r → m3 a (T + x) = m2 a (T + (if x < y ∨ gm_s G r - y ≤ x then gm_s G r - 1 - x else x))), fun y m3 => (10 - y).toNat, ⟨Int.le_refl _, by omega, hx2, o2, e2, b2, fun a x a0 a1 x0 x1 => by rw [if_neg (by omega)]⟩, ?_⟩
    rintro y m3 ⟨y0, y1, hx3, o3, e3, b3, w3⟩
    unfold f_Model_openParts_251
    rw [e3]
    refine ⟨by omega, by omega, fun c2 => ⟨by omega, by omega, by omega, ?_⟩, fun c2 => ?_⟩
    · refine gp_exch (by omega) (by omega) (by omega) (by omega) (fun m4 hx4 w4 => ⟨by omega, ⟨by omega, by omega, gx_t hx3 (gx_sub hx4 (by decide)), fun x xn => by rw [hx4 63 (by decide)]; exact o3 x xn, by rw [hx4 63 (by decide)]; exact e3, fun a x a0 a1 xT => ?_, fun a x a0 a1 x0 x1 => ?_⟩, by (try dsimp only); omega⟩)
      · rw [w4 a x a0 a1, if_neg (by omega), if_neg (by omega)]
        exact b3 a x a0 a1 xT
      · rw [w4 a (T + x) a0 a1]
        by_cases q1 : T + x = T + gm_s G r - 1 - y
        · rw [if_pos q1, w3 a y a0 a1 (by omega) (by omega), if_neg (by omega), if_pos (by omega)]
          have e : gm_s G r - 1 - x = y := by omega
          rw [e]
        · rw [if_neg q1]
          by_cases q2 : T + x = T + y
          · have e5 : T + gm_s G r - 1 - y = T + (gm_s G r - 1 - y) := by omega
            rw [if_pos q2, e5, w3 a (gm_s G r - 1 - y) a0 a1 (by omega) (by omega), if_neg (by omega), if_pos (by omega)]
            have e : gm_s G r - 1 - x = gm_s G r - 1 - y := by omega
            rw [e]
          · rw [if_neg q2, w3 a x a0 a1 x0 x1]
            by_cases q3 : x < y ∨ gm_s G r - y ≤ x
            · rw [if_pos q3, if_pos (by omega)]
            · rw [if_neg q3, if_neg (by omega)]
    · refine H m3 cu sh p l hsh hx3 o3 e3 b3 (fun x x0 x1 => gp_at_cg (fun a a0 a1 => ?_) (hat (gm_s G r - 1 - x) (by omega) (by omega)))
      rw [w3 a x a0 a1 x0 x1]
      by_cases q3 : x < y ∨ gm_s G r - y ≤ x
      · rw [if_pos q3]
      · rw [if_neg q3]
        have e : x = gm_s G r - 1 - x := by omega
        rw [← e]
  have e81 := ep d d0 c
  refine ⟨by omega, by omega, by omega, by omega, ?_⟩
  rw [e81]
  intro v13 hv13
  rw [hv13]
  clear hv13 v13
  have Rs := gk_R_s (G := G) (z := z) (t := t) (r := r) (i := i) (j := j) (B := gb A) (d := d) (k := p) d0 c
  have gs : l < gsum (gp_H G z t r i j A d p) (j + 1 - p).toNat := by
    have e : gsum (gp_H G z t r i j A d p) (j + 1 - p).toNat = gsum (fun x => min (gk_own G z t (gk_C G z t) r i j (gb A) d p (p + x) * gk_R G z t r i j (gb A) (d + 1) (p + x)) 1000000000000000000) (j + 1 - p).toNat := rfl
    omega
  have tb2 : ∀ d p, 0 ≤ d → d ≤ gm_s G r → i ≤ p → p ≤ j → gt_row G z t (gt_M G z t) r d i p → m2 108 (9 * d + p) = gk_R G z t r i j (gb A) d p := fun d p a b c e f => by
    rw [e108]
    exact tb d p a b c e f
  have ones : ∀ (q : Int) (Q1 : Int → Prop), p ≤ q → q ≤ j → (∀ v, x_Model_times v (m2 108 (9 * d + 9 + q)) = gp_H G z t r i j A d p (q - p) → Q1 v) → w_Model_countOf (gm_p G r d) p q i j A m2 Q1 := fun q Q1 pq qj H1 =>
    gk_mcountOf hG e1 mx2 ct2 r0 r1 d0 c i0 ip pq qj jz hA (fun v hv => H1 v (by
      rw [hv (gk_nd_x e105 (hnd d p q d0 c row pq qj))]
      exact gp_Hm hG r0 r1 d0 c ip pq qj tb2 row))
  refine ones p _ (Int.le_refl _) pj (fun v hv => ⟨by omega, by omega, by omega, by omega, by omega, ⟨rfl, rfl⟩, ?_⟩)
  rw [hv]
  intro v15 hv15
  refine ⟨fun l1 q x => p ≤ q ∧ q ≤ j ∧ 0 ≤ l1 ∧ l = gsum (gp_H G z t r i j A d p) (q - p).toNat + l1 ∧ x = gp_H G z t r i j A d p (q - p), fun l1 q x => (20 - q).toNat, ⟨Int.le_refl _, pj, l0, ?_, hv15⟩, ?_⟩
  · have e : (p - p).toNat = 0 := by omega
    rw [e]
    show l = 0 + l
    omega
  clear hv hv15 v v15
  rintro l2 q each ⟨pq, qj, l20, hl, hx⟩
  have Hnn : ∀ x, 0 ≤ gp_H G z t r i j A d p x := fun x => gp_H_nn hG r0 r1 d0
  have step : gsum (gp_H G z t r i j A d p) (q + 1 - p).toNat = gsum (gp_H G z t r i j A d p) (q - p).toNat + gp_H G z t r i j A d p (q - p) := by
    have e1 : (q + 1 - p).toNat = (q - p).toNat + 1 := by omega
    have e2 : (((q - p).toNat : Nat) : Int) = q - p := by omega
    rw [e1]
    show gsum _ _ + gp_H G z t r i j A d p (((q - p).toNat : Nat) : Int) = _
    rw [e2]
  unfold f_Model_openParts_79
  refine ⟨fun c3 => ⟨by omega, by omega, by omega, by omega, by omega, ?_⟩, fun c3 => ⟨?_, ?_⟩⟩
  rotate_left
  · have Rb := (gk_R_b hG (z := z) (t := t) (i := i) (j := j) (B := gb A) (d := d) (k := p) r0 r1 d0).2
    have g0 := gsum_nn (f := gp_H G z t r i j A d p) (q - p).toNat (fun y _ _ => Hnn y)
    have := Hnn (q - p)
    omega
  · intro v10 hv10
    have qj2 : q + 1 ≤ j := by
      by_cases u : q = j
      · rw [u] at step hl hx
        omega
      · omega
    refine ⟨by omega, ones (q + 1) _ (by omega) qj2 (fun v hv => ⟨by omega, by omega, by omega, by omega, by omega, ⟨rfl, rfl⟩, ?_⟩)⟩
    rw [hv]
    intro v15 hv15
    exact ⟨⟨by omega, qj2, by omega, by rw [step]; omega, hv15⟩, by (try dsimp only); omega⟩
  -- here it ends
  have ctt : gp_cut G z t r i j A d p l q l2 := ⟨pq, qj, hl, l20, by omega⟩
  obtain ⟨x1, x2, x3, x4, x5, x6⟩ := gp_cut_x hG r0 r1 d0 ctt
  have pm := gk_own_pm (fun n i j A => gk_C_M) (by omega : gk_own G z t (gk_C G z t) r i j (gb A) d p q ≠ 0)
  have row2 : gt_row G z t (gt_M G z t) r (d + 1) i q := by
    rw [gt_row_s d0]
    exact ⟨p, row, pm⟩
  have tR : m2 108 (9 * d + 9 + q) = gk_R G z t r i j (gb A) (d + 1) q := by
    have ixe : 9 * d + 9 + q = 9 * (d + 1) + q := by omega
    rw [ixe]
    exact tb2 (d + 1) q (by omega) (by omega) (by omega) qj row2
  rw [tR]
  intro v17 hv17
  rw [hv17]
  clear hv17 v17
  intro v19 hv19
  -- the state behind an opened part
  have fin : ∀ (m4 : gh_M), gx [63, 111, 112, 113, 114, 115, 116] m2 m4 → (∀ y, y ≠ 80 → m4 63 y = m2 63 y) → m4 63 80 = T + d + 1 → (∀ a x : Int, 111 ≤ a → a ≤ 116 → x ≠ T + d → m4 a x = m2 a x) → gp_at m4 (T + d) (gp_kid G t r i j A (lv + 1) d p q (l2 / gk_R G z t r i j (gb A) (d + 1) q)) → 0 ≤ d + 1 ∧ d + 1 ≤ gm_s G r ∧ i ≤ q ∧ q ≤ j ∧ 0 ≤ l2 % gk_R G z t r i j (gb A) (d + 1) q ∧ l2 % gk_R G z t r i j (gb A) (d + 1) q < gk_R G z t r i j (gb A) (d + 1) q ∧ gt_row G z t (gt_M G z t) r (d + 1) i q ∧ gx [63, 111, 112, 113, 114, 115, 116] m m4 ∧ (∀ y, y ≠ 80 → m4 63 y = m 63 y) ∧ m4 63 80 = T + (d + 1) ∧ (∀ a x : Int, 111 ≤ a → a ≤ 116 → x < T → m4 a x = m a x) ∧ ∃ cu sh : Int → Int, gp_sh G z t r i j A k cu sh (d + 1).toNat q (l2 % gk_R G z t r i j (gb A) (d + 1) q) ∧ ∀ x : Int, 0 ≤ x → x < d + 1 → gp_at m4 (T + x) (gp_kid G t r i j A (lv + 1) x (gp_st i cu x) (cu x) (sh x)) := by
    intro m4 f1 f2 f3 f4 f5
    refine ⟨by omega, by omega, by omega, qj, x5, x6, row2, gx_t hx2 f1, fun y yn => by rw [f2 y yn]; exact o2 y yn, by omega, fun a x a0 a1 xT => by rw [f4 a x a0 a1 (by omega)]; exact b2 a x a0 a1 xT, fun x => if x = d then q else cu x, fun x => if x = d then l2 / gk_R G z t r i j (gb A) (d + 1) q else sh x, ?_, fun x x0 x1 => ?_⟩
    · have ed : (d + 1).toNat = d.toNat + 1 := by omega
      have ed2 : ((d.toNat : Nat) : Int) = d := by omega
      rw [ed]
      refine ⟨p, l, l2, gp_sh_cg d.toNat p l (fun x x0 x1 => ⟨if_neg (by omega), if_neg (by omega)⟩) hsh, ?_, ?_, ?_, ?_⟩
      · rw [ed2]
        exact ctt
      · exact if_pos ed2
      · rw [ed2]
        exact if_pos rfl
      · rw [ed2]
    · by_cases q1 : x = d
      · have e4 : gp_st i (fun x => if x = d then q else cu x) d = p := by
          have h1 := gp_sh_st hsh
          have ed2 : ((d.toNat : Nat) : Int) = d := by omega
          rw [ed2] at h1
          rw [← h1]
          unfold gp_st
          by_cases q2 : d = 0
          · rw [if_pos q2, if_pos q2]
          · rw [if_neg q2, if_neg q2]
            exact if_neg (by omega)
        rw [q1, e4]
        show gp_at m4 (T + d) (gp_kid G t r i j A (lv + 1) d p (if d = d then q else cu d) (if d = d then l2 / gk_R G z t r i j (gb A) (d + 1) q else sh d))
        rw [if_pos rfl, if_pos rfl]
        exact f5
      · have e4 : gp_st i (fun x => if x = d then q else cu x) x = gp_st i cu x := by
          unfold gp_st
          by_cases q2 : x = 0
          · rw [if_pos q2, if_pos q2]
          · rw [if_neg q2, if_neg q2]
            exact if_neg (by omega)
        rw [e4]
        show gp_at m4 (T + x) (gp_kid G t r i j A (lv + 1) x (gp_st i cu x) (if x = d then q else cu x) (if x = d then l2 / gk_R G z t r i j (gb A) (d + 1) q else sh x))
        rw [if_neg q1, if_neg q1]
        exact gp_at_cg (fun a a0 a1 => f4 a (T + x) a0 a1 (by omega)) (hat x x0 (by omega))
  refine ⟨fun m4 => 0 ≤ d + 1 ∧ d + 1 ≤ gm_s G r ∧ i ≤ q ∧ q ≤ j ∧ 0 ≤ l2 % gk_R G z t r i j (gb A) (d + 1) q ∧ l2 % gk_R G z t r i j (gb A) (d + 1) q < gk_R G z t r i j (gb A) (d + 1) q ∧ gt_row G z t (gt_M G z t) r (d + 1) i q ∧ gx [63, 111, 112, 113, 114, 115, 116] m m4 ∧ (∀ y, y ≠ 80 → m4 63 y = m 63 y) ∧ m4 63 80 = T + (d + 1) ∧ (∀ a x : Int, 111 ≤ a → a ≤ 116 → x < T → m4 a x = m a x) ∧ ∃ cu sh : Int → Int, gp_sh G z t r i j A k cu sh (d + 1).toNat q (l2 % gk_R G z t r i j (gb A) (d + 1) q) ∧ ∀ x : Int, 0 ≤ x → x < d + 1 → gp_at m4 (T + x) (gp_kid G t r i j A (lv + 1) x (gp_st i cu x) (cu x) (sh x)), fun m4 w => ⟨l20, x2, ?_⟩, fun c4 => ?_, fun c4 => ?_⟩
  · intro v10 hv10
    rw [hv10]
    exact ⟨by omega, w, by (try dsimp only); omega⟩
  · have pn := gm_p_n hG r0 r1 d0 c
    have en : gm_n G r d = -1 - gm_p G r d ∧ 0 ≤ gm_n G r d ∧ gm_n G r d < gm_N G := by
      rcases pn with y | y
      · exact y.2
      · omega
    refine ⟨by omega, l20, x2, ?_⟩
    obtain ⟨av, hav⟩ : ∃ av, av = (if v19 = 0 then 0 else A) := ⟨_, rfl⟩
    rw [← hav, ← en.1]
    unfold w_Model_opn
    refine ⟨by omega, by omega, by omega, by omega, by omega, by omega, by omega, by omega, by omega, by omega, by omega, by omega, by omega, fin _ ?_ (fun y yn => ?_) ?_ (fun a x a0 a1 xn => ?_) ?_⟩
    · exact gx_u (gx_u (gx_u (gx_u (gx_u (gx_u (gx_u gx_rf (by decide)) (by decide)) (by decide)) (by decide)) (by decide)) (by decide)) (by decide)
    · rw [gh_u_i yn, gh_u_a (by decide), gh_u_a (by decide), gh_u_a (by decide), gh_u_a (by decide), gh_u_a (by decide), gh_u_a (by decide)]
    · rw [gh_u_s]
      omega
    · rw [e2, gh_u_a (by omega), gh_u_i xn, gh_u_i xn, gh_u_i xn, gh_u_i xn, gh_u_i xn, gh_u_i xn]
    · unfold gp_kid
      rw [if_neg (by omega), e2]
      refine ⟨?_, fun _ => ⟨?_, ?_, ?_, ?_, ?_⟩⟩
      · rw [gh_u_a (by decide), gh_u_a (by decide), gh_u_a (by decide), gh_u_a (by decide), gh_u_a (by decide), gh_u_a (by decide), gh_u_s]
        rfl
      · rw [gh_u_a (by decide), gh_u_a (by decide), gh_u_a (by decide), gh_u_a (by decide), gh_u_a (by decide), gh_u_s]
        rfl
      · rw [gh_u_a (by decide), gh_u_a (by decide), gh_u_a (by decide), gh_u_a (by decide), gh_u_s]
        rfl
      · rw [gh_u_a (by decide), gh_u_a (by decide), gh_u_a (by decide), gh_u_s, hav, hv19]
        show _ = if p = i ∧ q = j then A else 0
        by_cases u : p = i ∧ q = j
        · rw [if_pos u, if_pos u, if_neg (by decide)]
        · rw [if_neg u, if_neg u, if_pos rfl]
      · rw [gh_u_a (by decide), gh_u_a (by decide), gh_u_s]
        show lv = lv + 1 - 1
        omega
      · rw [gh_u_a (by decide), gh_u_s]
        rfl
  · have pn := gm_p_n hG r0 r1 d0 c
    have en : gm_n G r d = -1 := by
      rcases pn with y | y
      · omega
      · exact y.2.2
    have pz : q = p + 1 ∧ p < z := by
      rcases pm with ⟨_, y1, y2, _⟩ | ⟨y, _⟩
      · exact ⟨y1, y2⟩
      · exact absurd en y
    have lt := mx2.2.1.2.2.2 p (by omega) pz.2
    rw [lt.1]
    refine ⟨by omega, by omega, by omega, ?_⟩
    unfold w_Model_opn
    refine ⟨by omega, by omega, by omega, by omega, by omega, by omega, by omega, by omega, by omega, by omega, by omega, by omega, by omega, fin _ ?_ (fun y yn => ?_) ?_ (fun a x a0 a1 xn => ?_) ?_⟩
    · exact gx_u (gx_u (gx_u (gx_u (gx_u (gx_u (gx_u gx_rf (by decide)) (by decide)) (by decide)) (by decide)) (by decide)) (by decide)) (by decide)
    · rw [gh_u_i yn, gh_u_a (by decide), gh_u_a (by decide), gh_u_a (by decide), gh_u_a (by decide), gh_u_a (by decide), gh_u_a (by decide)]
    · rw [gh_u_s]
      omega
    · rw [e2, gh_u_a (by omega), gh_u_i xn, gh_u_i xn, gh_u_i xn, gh_u_i xn, gh_u_i xn, gh_u_i xn]
    · unfold gp_kid
      rw [if_pos en, e2]
      refine ⟨?_, fun y => absurd ?_ y⟩
      · rw [gh_u_a (by decide), gh_u_a (by decide), gh_u_a (by decide), gh_u_a (by decide), gh_u_a (by decide), gh_u_a (by decide), gh_u_s]
        rfl
      · show -1 - t p < 0
        omega
