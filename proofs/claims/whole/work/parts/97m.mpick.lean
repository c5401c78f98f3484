/-! PICKING: the model takes steps -/
theorem gp_tot {G : gm_G} {z : Int} {t : Int → Int} {E : Int} {n i j B A : Int} (hG : gm_ok G) (e1 : gm_Ecl G E) (z8 : z ≤ 8) (n0 : 0 ≤ n) (n1 : n < gm_N G) (i0 : 0 ≤ i) (ij : i ≤ j) (jz : j ≤ z) (hB : gbs 8 B) (nB : ¬ gb B n) (hA : A = gh_ior_f B (gh_ishl_f 1 n)) : gk_C G z t n i j (gb B) ≤ gsum (gp_F G z t n i j A) (gm_R G).toNat := by
  have hN := hG.2.1
  have bA : ∀ x, 0 ≤ x → (gb A x ↔ gb B x ∨ x = n) := fun x x0 => by
    rw [hA, gb_ior (n := 8) (by decide) hB (gbs_one n0 (by omega) (by decide)), gb_ishl1 n0 (by omega) x0]
  have e2 : gsum (gp_F G z t n i j A) (gm_R G).toNat = gsum (fun r => gt_if (gm_o G r = n) (gk_R G z t r i j (fun x => gb B x ∨ x = n) 0 i)) (gm_R G).toNat := gsum_cg _ (fun y y0 y1 => by
    unfold gp_F
    rw [gk_R_cg hG e1 y0 (by omega) (Int.le_refl _) (Int.le_refl _) (fun x x0 _ => bA x x0)])
  have e3 := gk_eq2 hG (z := z) (t := t) (A := gb B) n0 n1 i0 ij jz (by omega) nB
  rw [← e2] at e3
  omega
theorem gp_takeStep {G : gm_G} {z : Int} {t : Int → Int} {U : Int → Prop} {s : Prop} {E : Int} {O : Int → Int} {m : gh_M} {Q : Int → gh_M → Prop} {u W : Int} {nd : gp_nd} {L : List gp_nd} (hG : gm_ok G) (fa : gk_fa G E O) (mx : gk_mx G z t U s m) (ct : gk_ct G z t m) (dn : gk_dn G z t m) (u0 : 0 ≤ u) (u1 : u < 300) (e71 : m 63 71 = u) (e80 : m 63 80 = L.length + 1) (hat : gp_at m L.length nd) (enL : gp_enc2 m L) (okn : gp_okn G z t O W L.length nd) (okL : gp_ok G z t O W L) (cn : gp_cn m (nd :: L)) (Wb : W < 900) (H : ∀ (m2 : gh_M) (e dp2 : Int) (L2 : List gp_nd), gp_step G z t (nd :: L) e (m 63 73) dp2 L2 → gx [63, 108, 110, 111, 112, 113, 114, 115, 116] m m2 → (∀ y, y ≠ 71 → y ≠ 73 → y ≠ 80 → m2 63 y = m 63 y) → m2 63 71 = u + 1 → m2 63 73 = dp2 → m2 63 80 = L2.length → (∀ x, x ≠ u → m2 110 x = m 110 x) → m2 110 u = e → gp_enc2 m2 L2 → gp_ok G z t O (W + 1) L2 → gp_cn m2 L2 → Q 0 m2) : w_Model_takeStep m Q := by
  have hN := hG.2.1
  have hR := hG.2.2.2.1
  have z8 := mx.2.1.2.2.1
  have e96 := mx.2.1.2.2.2
  have len := gp_ok_len L okL
  have T : m 63 80 - 1 = L.length := by omega
  have ux : gx [63] m (gh_u m 63 80 (L.length : Int)) := gx_one _ _ _ _
  unfold w_Model_takeStep
  rw [T]
  refine ⟨by omega, by omega, by omega, ?_⟩
  obtain ⟨n, i, j, B, lv, kk⟩ := nd
  obtain ⟨h1, h2⟩ := hat
  have h1 : m 111 L.length = n := h1
  rw [h1]
  intro v1 hv1
  rw [hv1]
  clear hv1 v1
  refine ⟨fun c => ⟨by omega, by omega, by omega, ?_⟩, fun c => ?_⟩
  · -- a letter
    rw [e71]
    refine H _ n (m 63 73) L ⟨fun _ => ⟨rfl, rfl, rfl⟩, fun y => absurd c y⟩ ?_ (fun y a b c => ?_) ?_ ?_ ?_ (fun x xu => ?_) ?_ ?_ (gp_ok_W (by omega) L okL) ?_
    · exact gx_u (gx_u (gx_u gx_rf (by decide)) (by decide)) (by decide)
    · rw [gh_u_i a, gh_u_a (by decide), gh_u_i c]
    · rw [gh_u_s]
    · rw [gh_u_i (by decide), gh_u_a (by decide), gh_u_i (by decide)]
    · rw [gh_u_i (by decide), gh_u_a (by decide), gh_u_s]
    · rw [gh_u_a (by decide), gh_u_i xu, gh_u_a (by decide)]
    · rw [gh_u_a (by decide), gh_u_s]
    · exact gp_enc2_cg L (fun a x a0 a1 x0 x1 => by rw [gh_u_a (by omega), gh_u_a (by omega), gh_u_a (by omega)]) enL
    · refine gp_cn_x (m := m) ?_ L cn.2
      exact (gx_u (gx_u (gx_u gx_rf (by decide)) (by decide)) (by decide) : gx [63, 110] m _) 105 (by decide)
  -- a name
  have okn' := okn.2 c
  have c' : ¬ n < 0 := c
  have ok1 : n < gm_N G := okn'.1
  have ok2 : 0 ≤ i := okn'.2.1
  have ok3 : i ≤ j := okn'.2.2.1
  have ok4 : j ≤ z := okn'.2.2.2.1
  have ok5 : gbs 8 B := okn'.2.2.2.2.1
  have ok6 : ¬ gb B n := okn'.2.2.2.2.2.1
  have ok7 : ∀ h, 0 ≤ h → h < gm_N G → gb B h → gb (O h) n := okn'.2.2.2.2.2.2.1
  have ok8 : 0 ≤ lv ∧ lv ≤ W := okn'.2.2.2.2.2.2.2.1
  have ok9 : 0 ≤ kk := okn'.2.2.2.2.2.2.2.2.1
  have ok10 : kk < gk_C G z t n i j (gb B) := okn'.2.2.2.2.2.2.2.2.2.1
  have ok11 : (L.length : Int) + 3 * (gk_rk i j (gb B) : Int) ≤ 240 := okn'.2.2.2.2.2.2.2.2.2.2
  have d5 := h2 c
  have d51 : m 112 L.length = i := d5.1
  have d52 : m 113 L.length = j := d5.2.1
  have d53 : m 114 L.length = B := d5.2.2.1
  have d54 : m 115 L.length = lv - 1 := d5.2.2.2.1
  have d55 : m 116 L.length = kk := d5.2.2.2.2
  have cn1 : 0 ≤ m 105 (gk_nk n i j B) := cn.1 c
  clear okn okn' h2 d5
  obtain ⟨A, hA⟩ : ∃ A, A = gh_ior_f B (gh_ishl_f 1 n) := ⟨_, rfl⟩
  have gA : gbs 8 A := by
    rw [hA]
    exact gbs_or (by decide) ok5 (gbs_one (by omega) (by omega) (by decide))
  refine ⟨by omega, by omega, ?_⟩
  rw [d51]
  intro v2 hv2
  rw [hv2]
  clear hv2 v2
  refine ⟨by omega, by omega, ?_⟩
  rw [d52]
  intro v3 hv3
  rw [hv3]
  clear hv3 v3
  refine ⟨by omega, by omega, ?_⟩
  rw [d53, ← hA]
  intro v4 hv4
  rw [hv4]
  clear hv4 v4
  have e5 : lv - 1 + 1 = lv := by omega
  refine ⟨by omega, by omega, ?_⟩
  rw [d54, e5]
  refine ⟨by omega, ?_⟩
  intro v5 hv5
  rw [hv5]
  clear hv5 v5
  refine ⟨by omega, by omega, ?_⟩
  rw [d55]
  intro v6 hv6
  rw [hv6]
  clear hv6 v6
  refine ⟨by omega, by omega, ?_⟩
  intro v8 hv8
  obtain ⟨g1, g2, g3, g4⟩ := mx.2.2.2 n (by omega) ok1
  obtain ⟨ma, hma⟩ : ∃ ma, ma = gh_u (gh_u m 63 80 (L.length : Int)) 63 73 (if lv ≤ m 63 73 then m 63 73 else lv) := ⟨_, rfl⟩
  rw [← hma]
  have ax : gx [63] m ma := by
    rw [hma]
    exact gx_u (gx_u gx_rf (by decide)) (by decide)
  have a63 : ∀ y, y ≠ 73 → y ≠ 80 → ma 63 y = m 63 y := fun y a b => by
    rw [hma, gh_u_i a, gh_u_i b]
  have a73 : ma 63 73 = max (m 63 73) lv := by
    rw [hma, gh_u_s]
    by_cases q : lv ≤ m 63 73
    · rw [if_pos q]
      omega
    · rw [if_neg q]
      omega
  have a80 : ma 63 80 = L.length := by
    rw [hma, gh_u_i (by decide), gh_u_s]
  clear hma
  have tot := gp_tot (t := t) hG fa.1 z8 (by omega) ok1 ok2 ok3 ok4 ok5 ok6 hA
  have Fnn : ∀ r : Nat, (r : Int) ≤ gm_R G → 0 ≤ gsum (gp_F G z t n i j A) r := fun r hr => gsum_nn _ (fun y y0 y1 => gp_F_nn hG y0 (by omega))
  -- the rules that are not through yet
  have more : ∀ (r left : Int), m 77 n ≤ r → r ≤ m 77 n + m 78 n → 0 ≤ left → kk = gsum (gp_F G z t n i j A) r.toNat + left → r < m 77 n + m 78 n := by
    intro r left ra rb l0 hl
    refine Classical.byContradiction (fun y => ?_)
    have all : gsum (gp_F G z t n i j A) (gm_R G).toNat = gsum (gp_F G z t n i j A) r.toNat := by
      have e : (gm_R G).toNat = r.toNat + ((gm_R G).toNat - r.toNat) := by omega
      rw [e]
      exact gsum_ext _ (fun y y0 y1 => gt_if_f (fun u => by
        have := (g4 y (by omega) (by omega)).mp u
        omega))
    omega
  have hnd : ∀ r d p q, 0 ≤ r → r < gm_R G → gm_o G r = n → 0 ≤ d → d < gm_s G r → gt_row G z t (gt_M G z t) r d i p → p ≤ q → q ≤ j → gk_nd G z t m r d p q i j A := fun r d p q r0 r1 ro d0 d1 row pq qj => by
    rw [hA]
    exact gp_down hG z8 dn (by omega) ok1 ok2 ok3 ok4 ok5 ok6 cn1 r0 r1 ro d0 d1 row pq qj
  have lay : ∀ (r left : Int) (mb : gh_M), m 77 n ≤ r → r ≤ m 77 n + m 78 n → 0 ≤ left → kk = gsum (gp_F G z t n i j A) r.toNat + left → gx [63, 108] m mb → (∀ y, mb 63 y = ma 63 y) → ∀ Q1 : Int → gh_M → Prop, (∀ mc, r < m 77 n + m 78 n → gx [63, 108] m mc → (∀ y, mc 63 y = ma 63 y) → (∀ d p, 0 ≤ d → d ≤ gm_s G r → i ≤ p → p ≤ j → gt_row G z t (gt_M G z t) r d i p → mc 108 (9 * d + p) = gk_R G z t r i j (gb A) d p) → Q1 0 mc) → w_Model_layWays r i j A mb Q1 := by
    intro r left mb ra rb l0 hl hxb ob Q1 H1
    have rc := more r left ra rb l0 hl
    have r0 : 0 ≤ r := by omega
    have r1 : r < gm_R G := by omega
    have ro : gm_o G r = n := (g4 r r0 r1).mpr ⟨ra, rc⟩
    have e105 : mb 105 = m 105 := hxb 105 (by decide)
    exact gk_layWays hG fa.1 (gk_mx_x hxb (by decide) (fun x x61 => by rw [ob x, a63 x (by omega) (by omega)]) mx) (gk_ct_x e105 ct) r0 r1 ok2 ok3 ok4 gA (fun d p q d0 d1 row pq qj => gk_nd_x e105 (hnd r d p q r0 r1 ro d0 d1 row pq qj)) (fun mc hxc tab => H1 mc rc (gx_t hxb (gx_sub hxc (by decide))) (fun y => by rw [hxc 63 (by decide)]; exact ob y) tab)
  have k0s : kk = gsum (gp_F G z t n i j A) v8.toNat + kk := by
    rw [gsum_z (f := gp_F G z t n i j A) v8.toNat (fun y y0 y1 => gt_if_f (fun u => by
      have := (g4 y y0 (by omega)).mp u
      omega))]
    omega
  refine lay v8 kk ma (by omega) (by omega) ok9 k0s (gx_sub ax (by decide)) (fun _ => rfl) _ (fun mc rc hxc oc tab => ?_)
  refine ⟨fun left r m3 => m 77 n ≤ r ∧ r < m 77 n + m 78 n ∧ 0 ≤ left ∧ kk = gsum (gp_F G z t n i j A) r.toNat + left ∧ gx [63, 108] m m3 ∧ (∀ y, m3 63 y = ma 63 y) ∧ ∀ d p, 0 ≤ d → d ≤ gm_s G r → i ≤ p → p ≤ j → gt_row G z t (gt_M G z t) r d i p → m3 108 (9 * d + p) = gk_R G z t r i j (gb A) d p, fun left r m3 => (30 - r).toNat, ⟨by omega, rc, ok9, k0s, hxc, oc, tab⟩, ?_⟩
  clear rc hxc oc tab mc k0s hv8 v8
  rintro left r m3 ⟨ra, rc, l0, hl, hx3, o3, tab⟩
  have r0 : 0 ≤ r := by omega
  have r1 : r < gm_R G := by omega
  have ro : gm_o G r = n := (g4 r r0 r1).mpr ⟨ra, rc⟩
  obtain ⟨s0, s1, s3, s4, s5⟩ := hG.2.2.2.2.1 r r0 r1
  have Rb := gk_R_b hG (z := z) (t := t) (i := i) (j := j) (B := gb A) (d := 0) (k := i) r0 r1 (Int.le_refl _)
  have t0 : m3 108 i = gk_R G z t r i j (gb A) 0 i := by
    have := tab 0 i (Int.le_refl _) s3 (Int.le_refl _) ok3 rfl
    have e : 9 * 0 + i = i := by omega
    rw [e] at this
    exact this
  have Fr : gp_F G z t n i j A r = gk_R G z t r i j (gb A) 0 i := by
    unfold gp_F
    exact gt_if_t ro
  have F0 := Fnn r.toNat (by omega)
  have C1 := (gk_C_b hG (z := z) (t := t) n i j (gb B)).2
  have step : gsum (gp_F G z t n i j A) (r + 1).toNat = gsum (gp_F G z t n i j A) r.toNat + gk_R G z t r i j (gb A) 0 i := by
    have e : (r + 1).toNat = r.toNat + 1 := by omega
    have e2 : (r.toNat : Int) = r := by omega
    rw [e]
    show gsum _ r.toNat + gp_F G z t n i j A (r.toNat : Int) = _
    rw [e2, Fr]
  unfold f_Model_takeStep_144
  rw [t0, o3 71, a63 71 (by decide) (by decide), e71]
  refine ⟨by omega, by omega, fun lt => ⟨u0, u1, by omega, ?_⟩, fun ge => ⟨by omega, by omega, by omega, ?_⟩⟩
  rotate_left
  · intro v6 hv6
    refine ⟨by omega, ?_⟩
    refine lay (r + 1) v6 m3 (by omega) (by omega) (by omega) (by omega) hx3 o3 _ (fun mc rc2 hxc oc tab2 => ⟨⟨by omega, rc2, by omega, by omega, hxc, oc, tab2⟩, by (try dsimp only); omega⟩)
  -- this rule
  obtain ⟨mb, hmb⟩ : ∃ mb, mb = gh_u (gh_u m3 110 u r) 63 71 (u + 1) := ⟨_, rfl⟩
  rw [← hmb]
  have bx : gx [63, 110] m3 mb := by
    rw [hmb]
    exact gx_u (gx_u gx_rf (by decide)) (by decide)
  have xmb : gx [63, 108, 110] m mb := gx_t (gx_sub hx3 (by decide)) (gx_sub bx (by decide))
  have b63 : ∀ y, y ≠ 71 → mb 63 y = ma 63 y := fun y a => by
    rw [hmb, gh_u_i a, gh_u_a (by decide)]
    exact o3 y
  have b71 : mb 63 71 = u + 1 := by
    rw [hmb, gh_u_s]
  have b110 : ∀ x, x ≠ u → mb 110 x = m 110 x := fun x xu => by
    rw [hmb, gh_u_a (by decide), gh_u_i xu, hx3 110 (by decide)]
  have b110u : mb 110 u = r := by
    rw [hmb, gh_u_a (by decide), gh_u_s]
  clear hmb
  have e105 : mb 105 = m 105 := xmb 105 (by decide)
  refine gp_openParts (T := (L.length : Int)) hG fa.1 (gk_mx_x xmb (by decide) (fun x x61 => by rw [b63 x (by omega), a63 x (by omega) (by omega)]) mx) (gk_ct_x e105 ct) r0 r1 ok2 ok3 ok4 gA ok8.1 (by omega) (fun d p q d0 d1 row pq qj => gk_nd_x e105 (hnd r d p q r0 r1 ro d0 d1 row pq qj)) (fun d p a b c e f => by rw [bx 108 (by decide)]; exact tab d p a b c e f) l0 lt (by rw [b63 80 (by decide)]; exact a80) (by omega) len ?_
  intro mc cu sh p l hsh hxc oc c80 c1 kat
  obtain ⟨p9, l9, w1, w2⟩ := gp_sh_kids (lv := lv + 1) s3 hsh (gm_s G r).toNat (by omega)
  have ez : (gm_s G r - ((gm_s G r).toNat : Int)).toNat = 0 := by omega
  have ez2 : gm_s G r - ((gm_s G r).toNat : Int) = 0 := by omega
  rw [ez] at w1
  rw [w1.1, w1.2] at w2
  obtain ⟨x1, x2⟩ := gp_kids_ok hG fa z8 (fun x a b => (e96 x a b).2) r0 r1 ro (by omega) ok1 ok2 ok3 ok4 ok5 ok6 ok7 hA (by omega : 0 ≤ lv + 1) (by omega : lv + 1 ≤ W + 1) ok11 (gp_ok_W (by omega) L okL) _ i left _ (by omega) (Int.le_refl _) ok3 (by rw [ez2]; rfl) w2
  have enc : gp_enc2 mc L := gp_enc2_cg L (fun a x a0 a1 x0 x1 => by
    rw [c1 a x a0 a1 x1, xmb a (by simp only [List.mem_cons, List.not_mem_nil, or_false]; omega)]) enL
  obtain ⟨y1, y2⟩ := gp_enc2_L kat enc (gm_s G r).toNat (by omega)
  have cnk := gp_kids_cn hG z8 (fun x a b => (e96 x a b).2) r0 r1 ok2 ok3 ok4 (fun d p q d0 d1 row pq qj => hnd r d p q r0 r1 ro d0 d1 row pq qj) cn.2 _ i left _ (by omega) (Int.le_refl _) ok3 (by rw [ez2]; rfl) w2
  refine H mc r (max (m 63 73) lv) _ ⟨fun y => absurd y c', fun _ => by
    rw [← hA]
    exact ⟨rfl, left, _, ⟨r0, r1, ro, hl, l0, lt⟩, w2, rfl⟩⟩ ?_ (fun y a b c => ?_) ?_ ?_ ?_ (fun x xu => ?_) ?_ y1 x1 (gp_cn_x ?_ _ cnk)
  · exact gx_t (gx_sub xmb (by decide)) (gx_sub hxc (by decide))
  · rw [oc y c, b63 y a, a63 y b c]
  · rw [oc 71 (by decide)]
    exact b71
  · rw [oc 73 (by decide), b63 73 (by decide)]
    exact a73
  · rw [c80, y2]
    omega
  · rw [hxc 110 (by decide)]
    exact b110 x xu
  · rw [hxc 110 (by decide)]
    exact b110u
  · rw [hxc 105 (by decide)]
    exact e105
