/-! PICKING: the model picks; both tell the same -/
theorem gp_mpick {G : gm_G} {z : Int} {t : Int → Int} {U : Int → Prop} {s : Prop} {E : Int} {O : Int → Int} {m : gh_M} {Q : Int → gh_M → Prop} {k : Int} (hG : gm_ok G) (fa : gk_fa G E O) (hD : gm_D m G) (ht : gd_t m z t) (hU : ∀ r, 0 ≤ r → r < gm_R G → (m 83 r ≠ 0 ↔ U r)) (hst : m 82 0 < 1000000000 ↔ s) (hl : m 63 52 ≠ 0 → gd_ch G z t U s m) (hr : gm_rg G (m 77) (m 78)) (co : gk_co G z t m) (ha : m 63 64 < 2140000000) (h24 : m 63 24 ≠ 0) (k0 : 0 ≤ k) (k1 : k < 1000000000000000000) (H0 : ∀ m2, gk_C G z t 0 0 z (fun _ => False) ≤ k → gx [63, 97, 98, 99, 100, 105, 106, 107, 108] m m2 → (∀ x, x ≠ 52 → x ≠ 61 → x ≠ 64 → x ≠ 66 → m2 63 x = m 63 x) → m2 63 52 ≠ 0 → m2 63 61 ≠ 0 → (m2 63 52 = m 63 52 ∨ m2 63 52 = 1) → (m2 63 61 = m 63 61 ∨ m2 63 61 = 1) → gk_mx G z t U s m2 → gk_co G z t m2 → m2 63 64 ≤ m 63 64 + 3200000 → Q (-1) m2) (H1 : ∀ (m2 : gh_M) (u : Nat) (tr : Int → Int) (dp : Int), k < gk_C G z t 0 0 z (fun _ => False) → gp_run G z t k u tr dp [] → (u : Int) ≤ 300 → gx [63, 97, 98, 99, 100, 105, 106, 107, 108, 109, 110, 111, 112, 113, 114, 115, 116] m m2 → (∀ x, x ≠ 52 → x ≠ 61 → x ≠ 64 → x ≠ 66 → x ≠ 68 → x ≠ 70 → x ≠ 71 → x ≠ 73 → x ≠ 80 → m2 63 x = m 63 x) → m2 63 52 ≠ 0 → m2 63 61 ≠ 0 → (m2 63 52 = m 63 52 ∨ m2 63 52 = 1) → (m2 63 61 = m 63 61 ∨ m2 63 61 = 1) → gk_mx G z t U s m2 → gk_co G z t m2 → m2 63 64 ≤ m 63 64 + 3200000 → m2 63 68 = u → m2 63 70 = dp → (∀ x : Int, 0 ≤ x → x < u → m2 109 x = tr x) → Q u m2) (H2 : ∀ (m2 : gh_M) (tr : Int → Int) (dp : Int) (L : List gp_nd), k < gk_C G z t 0 0 z (fun _ => False) → gp_run G z t k 300 tr dp L → L ≠ [] → gx [63, 97, 98, 99, 100, 105, 106, 107, 108, 110, 111, 112, 113, 114, 115, 116] m m2 → (∀ x, x ≠ 52 → x ≠ 61 → x ≠ 64 → x ≠ 66 → x ≠ 71 → x ≠ 73 → x ≠ 80 → m2 63 x = m 63 x) → m2 63 52 ≠ 0 → m2 63 61 ≠ 0 → (m2 63 52 = m 63 52 ∨ m2 63 52 = 1) → (m2 63 61 = m 63 61 ∨ m2 63 61 = 1) → gk_mx G z t U s m2 → gk_co G z t m2 → m2 63 64 ≤ m 63 64 + 3200000 → Q (-1004) m2) : w_Model_pick k m Q := by
  have hN0 := hG.1
  have hN := hG.2.1
  have z0 := ht.2.1
  have z8 := ht.2.2.1
  unfold w_Model_pick
  refine ⟨fun _ => ⟨fun y => absurd y h24, fun _ => ?_⟩, fun y => absurd ⟨by omega, by omega⟩ y⟩
  rw [ht.1]
  refine gk_mcount hG fa.1 hD ht hU hst hl hr co (Int.le_refl _) (by omega) (Int.le_refl _) z0 (Int.le_refl _) ha ?_
  intro ma xa oa a52 a61 b52 b61 mx co2 aa known
  refine ⟨fun lt => ?_, fun ge => H0 ma (by omega) xa oa a52 a61 b52 b61 mx co2 aa⟩
  have ea50 : ma 63 50 = z := by
    rw [oa 50 (by decide) (by decide) (by decide) (by decide)]
    exact ht.1
  rw [ea50]
  unfold w_Model_opn
  rw [gh_u_s]
  refine ⟨by decide, by decide, by decide, by decide, by decide, by decide, by decide, by decide, by decide, by decide, by decide, by decide, by decide, ?_⟩
  obtain ⟨mm, hmm⟩ : ∃ mm, mm = gh_u (gh_u (gh_u (gh_u (gh_u (gh_u (gh_u (gh_u (gh_u (gh_u ma 63 71 0) 63 73 0) 63 80 0) 111 0 0) 112 0 0) 113 0 z) 114 0 0) 115 0 0) 116 0 k) 63 80 (0 + 1) := ⟨_, rfl⟩
  rw [← hmm]
  have hxm : gx [63, 111, 112, 113, 114, 115, 116] ma mm := by
    rw [hmm]
    exact gx_u (gx_u (gx_u (gx_u (gx_u (gx_u (gx_u (gx_u (gx_u (gx_u gx_rf (by decide)) (by decide)) (by decide)) (by decide)) (by decide)) (by decide)) (by decide)) (by decide)) (by decide)) (by decide)
  have o63 : ∀ y, y ≠ 71 → y ≠ 73 → y ≠ 80 → mm 63 y = ma 63 y := fun y a b c => by
    rw [hmm, gh_u_i c, gh_u_a (by decide), gh_u_a (by decide), gh_u_a (by decide), gh_u_a (by decide), gh_u_a (by decide), gh_u_a (by decide), gh_u_i c, gh_u_i b, gh_u_i a]
  have m71 : mm 63 71 = 0 := by
    rw [hmm, gh_u_i (by decide), gh_u_a (by decide), gh_u_a (by decide), gh_u_a (by decide), gh_u_a (by decide), gh_u_a (by decide), gh_u_a (by decide), gh_u_i (by decide), gh_u_i (by decide), gh_u_s]
  have m73 : mm 63 73 = 0 := by
    rw [hmm, gh_u_i (by decide), gh_u_a (by decide), gh_u_a (by decide), gh_u_a (by decide), gh_u_a (by decide), gh_u_a (by decide), gh_u_a (by decide), gh_u_i (by decide), gh_u_s]
  have m80 : mm 63 80 = 1 := by
    rw [hmm, gh_u_s]
    rfl
  have m111 : mm 111 0 = 0 := by
    rw [hmm, gh_u_a (by decide), gh_u_a (by decide), gh_u_a (by decide), gh_u_a (by decide), gh_u_a (by decide), gh_u_a (by decide), gh_u_s]
  have m112 : mm 112 0 = 0 := by
    rw [hmm, gh_u_a (by decide), gh_u_a (by decide), gh_u_a (by decide), gh_u_a (by decide), gh_u_a (by decide), gh_u_s]
  have m113 : mm 113 0 = z := by
    rw [hmm, gh_u_a (by decide), gh_u_a (by decide), gh_u_a (by decide), gh_u_a (by decide), gh_u_s]
  have m114 : mm 114 0 = 0 := by
    rw [hmm, gh_u_a (by decide), gh_u_a (by decide), gh_u_a (by decide), gh_u_s]
  have m115 : mm 115 0 = 1 - 1 := by
    rw [hmm, gh_u_a (by decide), gh_u_a (by decide), gh_u_s]
    rfl
  have m116 : mm 116 0 = k := by
    rw [hmm, gh_u_a (by decide), gh_u_s]
  have k2 : k < gk_C G z t 0 0 z (gb 0) := by
    rw [gk_C_nil hG fa.1 (Int.le_refl _) (by omega)]
    exact lt
  have rk := gk_rk_le (i := 0) (j := z) (A := gb 0) (by omega)
  clear hmm
  obtain ⟨co3, co4, co5⟩ := co2
  refine ⟨fun m2 => ∃ (u : Int) (L : List gp_nd), m2 63 71 = u ∧ 0 ≤ u ∧ u ≤ 300 ∧ gp_run G z t k u.toNat (m2 110) (m2 63 73) L ∧ gp_enc2 m2 L ∧ m2 63 80 = L.length ∧ gp_ok G z t O (u + 1) L ∧ gp_cn m2 L ∧ gx [63, 108, 110, 111, 112, 113, 114, 115, 116] ma m2 ∧ (∀ y, y ≠ 71 → y ≠ 73 → y ≠ 80 → m2 63 y = ma 63 y), fun m2 => (400 - m2 63 71).toNat, ⟨0, [gp_na 0 0 z 0 1 k], m71, Int.le_refl _, by decide, ⟨m73, rfl⟩, ⟨⟨m111, fun _ => ⟨m112, m113, m114, m115, m116⟩⟩, trivial⟩, m80, ⟨⟨fun y => absurd y (by show ¬ (0 : Int) < 0; decide), fun _ => ⟨by show (0 : Int) < _; omega, Int.le_refl _, z0, Int.le_refl _, gbs_0 8, gb_0 _, fun h h0 h1 y => absurd y (gb_0 h), ⟨by show (0 : Int) ≤ 1; decide, by show (1 : Int) ≤ 0 + 1; decide⟩, k0, k2, ?_⟩⟩, trivial⟩, ⟨fun _ => ?_, trivial⟩, gx_sub hxm (by decide), o63⟩, ?_⟩
  · show (0 : Int) + 3 * (gk_rk 0 z (gb 0) : Int) ≤ 240
    omega
  · rw [hxm 105 (by decide)]
    exact known
  clear m71 m73 m80 m111 m112 m113 m114 m115 m116 o63 hxm rk mm
  rintro m2 ⟨u, L0, e71, u0, u3, run, en, e80, ok, cn, hx2, o63⟩
  have un : ((u.toNat : Nat) : Int) = u := by omega
  have x105 : m2 105 = ma 105 := hx2 105 (by decide)
  have mxk : ∀ m3 : gh_M, gx [63, 108, 109, 110, 111, 112, 113, 114, 115, 116] ma m3 → (∀ y, y < 66 → m3 63 y = ma 63 y) → gk_mx G z t U s m3 := fun m3 hx3 o3 => gk_mx_x hx3 (by decide) (fun x x61 => o3 x (by omega)) mx
  have cok : ∀ m3 : gh_M, gx [63, 108, 109, 110, 111, 112, 113, 114, 115, 116] ma m3 → (∀ y, y < 66 → m3 63 y = ma 63 y) → gk_co G z t m3 := fun m3 hx3 o3 => by
    refine ⟨fun _ => ⟨gk_ct_x (hx3 105 (by decide)) (co3 a61).1, ?_⟩, ?_, ?_⟩
    · have d := (co3 a61).2
      unfold gk_dn gk_nd at d ⊢
      rw [hx3 105 (by decide)]
      exact d
    · rw [hx3 106 (by decide), o3 64 (by decide)]
      exact co4
    · rw [o3 64 (by decide)]
      exact co5
  have ctd : gk_ct G z t m2 ∧ gk_dn G z t m2 := by
    have := (cok m2 (gx_sub hx2 (by decide)) (fun y y1 => o63 y (by omega) (by omega) (by omega))).1
    rw [o63 61 (by decide) (by decide) (by decide)] at this
    exact this a61
  unfold f_Model_pick_74
  cases L0 with
  | nil =>
    have e80' : m2 63 80 = 0 := e80
    refine ⟨fun _ => ?_, fun y => absurd (by omega) y⟩
    obtain ⟨mb, hmb⟩ : ∃ mb, mb = gh_u (gh_u m2 63 68 (m2 63 71)) 63 70 (m2 63 73) := ⟨_, rfl⟩
    rw [← hmb]
    have bx : gx [63] m2 mb := by
      rw [hmb]
      exact gx_u (gx_u gx_rf (by decide)) (by decide)
    have b63 : ∀ y, y ≠ 68 → y ≠ 70 → mb 63 y = m2 63 y := fun y a b => by
      rw [hmb, gh_u_i b, gh_u_i a]
    have b68 : mb 63 68 = u := by
      rw [hmb, gh_u_i (by decide), gh_u_s]
      exact e71
    have b70 : mb 63 70 = m2 63 73 := by
      rw [hmb, gh_u_s]
    clear hmb
    refine ⟨fun y m3 => 0 ≤ y ∧ y ≤ u ∧ gx [109] mb m3 ∧ ∀ x, 0 ≤ x → x < y → m3 109 x = m2 110 x, fun y m3 => (400 - y).toNat, ⟨Int.le_refl _, u0, gx_rf, fun x a b => by omega⟩, ?_⟩
    rintro y m3 ⟨y0, y1, hx3, w3⟩
    unfold f_Model_pick_120
    rw [hx3 63 (by decide), b68]
    refine ⟨fun c => ⟨y0, by omega, y0, by omega, by omega, ⟨by omega, by omega, gx_u hx3 (by decide), fun x x0 x1 => ?_⟩, by (try dsimp only); omega⟩, fun c => ?_⟩
    · by_cases q : x = y
      · rw [q, gh_u_s, hx3 110 (by decide), bx 110 (by decide)]
      · rw [gh_u_i q]
        exact w3 x x0 (by omega)
    · have ey : y = u := by omega
      have hx4 : gx [63, 108, 109, 110, 111, 112, 113, 114, 115, 116] ma m3 := gx_t (gx_t (gx_sub hx2 (by decide)) (gx_sub bx (by decide))) (gx_sub hx3 (by decide))
      have o4 : ∀ y, y ≠ 68 → y ≠ 70 → y ≠ 71 → y ≠ 73 → y ≠ 80 → m3 63 y = ma 63 y := fun y a b c d e => by
        rw [hx3 63 (by decide), b63 y a b]
        exact o63 y c d e
      have o5 : ∀ y, y < 66 → m3 63 y = ma 63 y := fun y a => o4 y (by omega) (by omega) (by omega) (by omega) (by omega)
      have h := H1 m3 u.toNat (m2 110) (m2 63 73) lt run (by omega) (gx_t (gx_sub xa (by decide)) (gx_sub hx4 (by decide))) (fun x a b c d e f g h i => by
        rw [o4 x e f g h i]
        exact oa x a b c d) (by rw [o5 52 (by decide)]; exact a52) (by rw [o5 61 (by decide)]; exact a61) (by rw [o5 52 (by decide)]; exact b52) (by rw [o5 61 (by decide)]; exact b61) (mxk m3 hx4 o5) (cok m3 hx4 o5) (by rw [o5 64 (by decide)]; exact aa) (by rw [hx3 63 (by decide), b68, un]) (by rw [hx3 63 (by decide), b70]) (fun x x0 x1 => w3 x x0 (by omega))
      rw [un] at h
      exact h
  | cons nd L =>
    have e80' : m2 63 80 = L.length + 1 := by
      have : ((nd :: L).length : Int) = L.length + 1 := by
        show ((L.length + 1 : Nat) : Int) = _
        omega
      omega
    refine ⟨fun y => absurd y (by omega), fun _ => ⟨fun y => ?_, fun y => ?_⟩⟩
    · have e : u.toNat = 300 := by omega
      rw [e] at run
      have hx4 : gx [63, 108, 109, 110, 111, 112, 113, 114, 115, 116] ma m2 := gx_sub hx2 (by decide)
      have o5 : ∀ y, y < 66 → m2 63 y = ma 63 y := fun y a => o63 y (by omega) (by omega) (by omega)
      exact H2 m2 (m2 110) (m2 63 73) (nd :: L) lt run (List.cons_ne_nil _ _) (gx_t (gx_sub xa (by decide)) (gx_sub hx2 (by decide))) (fun x a b c d e f g => by
        rw [o63 x e f g]
        exact oa x a b c d) (by rw [o5 52 (by decide)]; exact a52) (by rw [o5 61 (by decide)]; exact a61) (by rw [o5 52 (by decide)]; exact b52) (by rw [o5 61 (by decide)]; exact b61) (mxk m2 hx4 o5) (cok m2 hx4 o5) (by rw [o5 64 (by decide)]; exact aa)
    · refine gp_takeStep (u := u) (W := u + 1) hG fa (mxk m2 (gx_sub hx2 (by decide)) (fun y y1 => o63 y (by omega) (by omega) (by omega))) ctd.1 ctd.2 u0 (by omega) e71 e80' en.1 en.2 ok.1 ok.2 cn (by omega) ?_
      intro m3 e dp2 L2 st hx3 o3 d71 d73 d80 d110 d110u en3 ok3 cn3
      refine ⟨⟨u + 1, L2, d71, by omega, by omega, ?_, en3, d80, ok3, cn3, gx_t hx2 hx3, fun y a b c => by rw [o3 y a b c]; exact o63 y a b c⟩, by (try dsimp only); omega⟩
      have e1 : (u + 1).toNat = u.toNat + 1 := by omega
      rw [e1, d73]
      refine ⟨m2 63 73, nd :: L, gp_run_cg _ (m2 110) (m3 110) _ _ (fun x x0 x1 => (d110 x (by omega)).symm) run, ?_⟩
      rw [un, d110u]
      exact st
theorem gp_run_pre {G : gm_G} {z : Int} {t : Int → Int} {k : Int} {u : Nat} : ∀ (v : Nat) {tr : Int → Int} {dp : Int} {L : List gp_nd}, gp_run G z t k (u + v) tr dp L → ∃ dp0 L0, gp_run G z t k u tr dp0 L0 ∧ (0 < v → L0 ≠ [])
  | 0, _, dp, L, h => ⟨dp, L, h, fun y => absurd y (by decide)⟩
  | 1, _, _, _, ⟨d1, L1, h1, h2⟩ => ⟨d1, L1, h1, fun _ y => by
    rw [y] at h2
    exact h2⟩
  | v + 2, _, _, _, ⟨d1, L1, h1, h2⟩ => by
    obtain ⟨d0, L0, a1, a2⟩ := gp_run_pre (v + 1) h1
    exact ⟨d0, L0, a1, fun _ => a2 (by omega)⟩
/-- a tree that is told to its end ends there -/
theorem gp_fin {G : gm_G} (hG : gm_ok G) {z : Int} {t : Int → Int} {k : Int} {u u2 : Nat} {tr tr2 : Int → Int} {dp dp2 : Int} {L2 : List gp_nd} (h1 : gp_run G z t k u tr dp []) (h2 : gp_run G z t k u2 tr2 dp2 L2) : u2 ≤ u := by
  refine Classical.byContradiction (fun w => ?_)
  have e : u2 = u + (u2 - u) := by omega
  rw [e] at h2
  obtain ⟨d0, L0, a1, a2⟩ := gp_run_pre (u2 - u) h2
  exact a2 (by omega) (gp_run_u hG u tr tr2 dp d0 [] L0 h1 a1).2.1.symm
theorem gp_same {G : gm_G} (hG : gm_ok G) {z : Int} {t : Int → Int} {k : Int} {u u2 : Nat} {tr tr2 : Int → Int} {dp dp2 : Int} (h1 : gp_run G z t k u tr dp []) (h2 : gp_run G z t k u2 tr2 dp2 []) : u = u2 ∧ dp = dp2 ∧ ∀ x : Int, 0 ≤ x → x < u → tr x = tr2 x := by
  have a := gp_fin hG h1 h2
  have b := gp_fin hG h2 h1
  have e : u2 = u := by omega
  rw [e] at h2
  have r := gp_run_u hG u tr tr2 dp dp2 [] [] h1 h2
  exact ⟨e.symm, r.1, r.2.2⟩
theorem gp_no {G : gm_G} (hG : gm_ok G) {z : Int} {t : Int → Int} {k : Int} {u : Nat} {tr tr2 : Int → Int} {dp dp2 : Int} {L : List gp_nd} (h1 : gp_run G z t k u tr dp []) (u3 : (u : Int) ≤ 300) (h2 : gp_run G z t k 300 tr2 dp2 L) (hL : L ≠ []) : False := by
  have a := gp_fin hG h1 h2
  have e : u = 300 := by omega
  rw [e] at h1
  exact hL (gp_run_u hG 300 tr tr2 dp dp2 [] L h1 h2).2.1.symm
