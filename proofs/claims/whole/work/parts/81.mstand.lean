/-! THE MODEL'S NAMES THAT STAND AT PLACES -/
/-- the table of beginnings is right -/
def gd_bg (G : gm_G) (z : Int) (t : Int → Int) (m : gh_M) : Prop := ∀ r d i j, 0 ≤ r → r < gm_R G → 0 ≤ d → d ≤ gm_s G r → 0 ≤ i → i ≤ z → 0 ≤ j → j ≤ z → (m 98 (405 * r + 81 * d + 9 * i + j) ≠ 0 ↔ gt_row G z t (gt_M G z t) r d i j)
def gd_sd (G : gm_G) (z : Int) (t : Int → Int) (B : Int → Prop) (D : Int → Int → Int → Prop) (P : Int → Prop) (y : Int) : Prop := ∃ r d i j, 0 ≤ r ∧ r < gm_R G ∧ 0 ≤ d ∧ d < gm_s G r ∧ D (4 * r + d) i j ∧ B r ∧ gm_n G r d ≠ -1 ∧ 0 ≤ i ∧ i ≤ j ∧ j ≤ z ∧ gt_row G z t (gt_M G z t) r d i j ∧ y = 9 * gm_n G r d + j ∧ P (9 * gm_o G r + i) ∧ ∀ x, P x → x = 9 * gm_o G r + i
theorem gd_sd_wf {G : gm_G} (hG : gm_ok G) {z : Int} (z8 : z ≤ 8) {t : Int → Int} {B : Int → Prop} {D : Int → Int → Int → Prop} : gq_wf (9 * gm_N G).toNat (gd_sd G z t B D) := by
  rintro P y ⟨r, d, i, j, r0, r1, d0, d1, _, _, n, i0, ij, jz, _, rfl, _, h⟩
  obtain ⟨g1, g2, g3, g4, g5⟩ := hG.2.2.2.2.1 r r0 r1
  have w := gm_n_rng hG r0 r1 d0 d1
  exact ⟨fun x hx => by rw [h x hx]; omega, by omega, by omega⟩
/-- one pass, both tables -/
def gd_sp (G : gm_G) (z : Int) (t : Int → Int) (U : Int → Prop) (st : Prop) (D : Int → Int → Int → Prop) (m3 m : gh_M) : Prop := gq_ps (9 * gm_N G).toNat (gd_sd G z t (fun _ => True) (fun _ _ _ => True)) (gd_sd G z t (fun _ => True) D) (fun x => gt_S G z t (fun _ => True) True (x / 9) (x % 9)) (m3 99) (m 99) ∧ gq_ps (9 * gm_N G).toNat (gd_sd G z t U (fun _ _ _ => True)) (gd_sd G z t U D) (fun x => gt_S G z t U st (x / 9) (x % 9)) (m3 100) (m 100) ∧ ∀ x, 0 ≤ x → x < 9 * gm_N G → m 100 x ≠ 0 → m 99 x ≠ 0
theorem gd_sp_w {G : gm_G} (hG : gm_ok G) {z : Int} (z8 : z ≤ 8) {t : Int → Int} {U : Int → Prop} {st : Prop} {D D2 : Int → Int → Int → Prop} {m3 m : gh_M} (h : gd_sp G z t U st D m3 m) (hD : ∀ r d i j, 0 ≤ r → r < gm_R G → 0 ≤ d → d < gm_s G r → 0 ≤ i → i ≤ j → j ≤ z → gm_n G r d ≠ -1 → gt_row G z t (gt_M G z t) r d i j → D2 (4 * r + d) i j → D (4 * r + d) i j ∨ m 99 (9 * gm_o G r + i) = 0) : gd_sp G z t U st D2 m3 m := by
  obtain ⟨h1, h2, h3⟩ := h
  refine ⟨gq_skip (gd_sd_wf hG z8) h1 (fun P y w => ?_), gq_skip (gd_sd_wf hG z8) h2 (fun P y w => ?_), h3⟩
  · obtain ⟨r, d, i, j, r0, r1, d0, d1, w1, w2, w3, w4, w5, w6, w7, w8, w9, w10⟩ := w
    rcases hD r d i j r0 r1 d0 d1 w4 w5 w6 w3 w7 w1 with e | e
    · exact Or.inl ⟨r, d, i, j, r0, r1, d0, d1, e, w2, w3, w4, w5, w6, w7, w8, w9, w10⟩
    · exact Or.inr (fun y => y _ w9 e)
  · obtain ⟨r, d, i, j, r0, r1, d0, d1, w1, w2, w3, w4, w5, w6, w7, w8, w9, w10⟩ := w
    rcases hD r d i j r0 r1 d0 d1 w4 w5 w6 w3 w7 w1 with e | e
    · exact Or.inl ⟨r, d, i, j, r0, r1, d0, d1, e, w2, w3, w4, w5, w6, w7, w8, w9, w10⟩
    · obtain ⟨g1, g2, _⟩ := hG.2.2.2.2.1 r r0 r1
      exact Or.inr (fun y => h3 _ (by omega) (by omega) (y _ w9) e)
theorem gd_mStand {m : gh_M} {G : gm_G} {z : Int} {t : Int → Int} {U : Int → Prop} {st : Prop} {Q : Int → gh_M → Prop} (hG : gm_ok G) (hD : gm_D m G) (ht : gd_t m z t) (hb : gd_bg G z t m) (hU : ∀ r, 0 ≤ r → r < gm_R G → (m 83 r ≠ 0 ↔ U r)) (hst : m 82 0 < 1000000000 ↔ st) (h : ∀ m1, gx [99, 100] m m1 → (∀ n i, 0 ≤ n → n < gm_N G → 0 ≤ i → i ≤ 8 → (m1 99 (9 * n + i) ≠ 0 ↔ gt_S G z t (fun _ => True) True n i) ∧ (m1 100 (9 * n + i) ≠ 0 ↔ gt_S G z t U st n i)) → Q 0 m1) : w_Model_findStanding m Q := by
  have hN0 := hG.1
  have hN := hG.2.1
  have hR0 := hG.2.2.1
  have hR := hG.2.2.2.1
  have z0 := ht.2.1
  have z8 := ht.2.2.1
  have ez := ht.1
  refine ⟨fun k m1 => 0 ≤ k ∧ k ≤ 72 ∧ gx [99, 100] m m1 ∧ (∀ x, 0 ≤ x → x < k → m1 99 x = if x = 0 then 1 else 0) ∧ ∀ x, 0 ≤ x → x < k → m1 100 x = if x = 0 ∧ m 82 0 < 1000000000 then 1 else 0, fun k _ => (100 - k).toNat, ⟨by omega, by omega, gx_rf, fun x a b => by omega, fun x a b => by omega⟩, ?_⟩
  rintro k m1 ⟨k0, k1, hx, ha, hb1⟩
  unfold f_Model_findStanding_2
  rw [hx 82 (by decide)]
  refine ⟨fun c => ⟨by omega, by omega, by omega, by omega, by omega, ⟨by omega, by omega, gx_u (gx_u hx (by decide)) (by decide), fun x x0 x1 => ?_, fun x x0 x1 => ?_⟩, by (try dsimp only); omega⟩, fun c => ?_⟩
  · rw [gh_u_a (by decide)]
    by_cases e : x = k
    · rw [e, gh_u_s]
    · rw [gh_u_i e]
      exact ha x x0 (by omega)
  · by_cases e : x = k
    · rw [e, gh_u_s]
    · rw [gh_u_i e, gh_u_a (by decide)]
      exact hb1 x x0 (by omega)
  have wf1 : ∀ B D, gq_wf (9 * gm_N G).toNat (gd_sd G z t B D) := fun B D => gd_sd_wf hG z8
  have tn : ((9 * gm_N G).toNat : Int) = 9 * gm_N G := by omega
  refine ⟨fun v m2 => 0 ≤ v ∧ v ≤ 9 * gm_N G ∧ gx [99, 100] m m2 ∧ ((∀ n : Int, 0 ≤ n → n < (9 * gm_N G).toNat → m2 99 n = 0 ∨ m2 99 n = 1) ∧ (∀ n : Int, 0 ≤ n → n < (9 * gm_N G).toNat → m2 99 n ≠ 0 → gt_S G z t (fun _ => True) True (n / 9) (n % 9)) ∧ m2 99 0 ≠ 0 ∧ (gq_cl (gd_sd G z t (fun _ => True) (fun _ _ _ => True)) (m2 99) ∨ v ≤ gq_ct (9 * gm_N G).toNat (m2 99))) ∧ ((∀ n : Int, 0 ≤ n → n < (9 * gm_N G).toNat → m2 100 n = 0 ∨ m2 100 n = 1) ∧ (∀ n : Int, 0 ≤ n → n < (9 * gm_N G).toNat → m2 100 n ≠ 0 → gt_S G z t U st (n / 9) (n % 9)) ∧ (st → m2 100 0 ≠ 0) ∧ (gq_cl (gd_sd G z t U (fun _ _ _ => True)) (m2 100) ∨ v ≤ gq_ct (9 * gm_N G).toNat (m2 100))) ∧ ∀ x, 0 ≤ x → x < 9 * gm_N G → m2 100 x ≠ 0 → m2 99 x ≠ 0, fun v _ => (100 - v).toNat, ⟨by omega, by omega, hx, ⟨fun i i0 i1 => ?_, fun i i0 i1 w => ?_, ?_, Or.inr (by omega)⟩, ⟨fun i i0 i1 => ?_, fun i i0 i1 w => ?_, fun w => ?_, Or.inr (by omega)⟩, fun x x0 x1 w => ?_⟩, ?_⟩
  · rw [ha i i0 (by omega)]
    exact gh_ib01
  · rw [ha i i0 (by omega)] at w
    by_cases e : i = 0
    · rw [e]
      exact gt_S_cl.1 trivial
    · rw [if_neg e] at w
      exact absurd rfl w
  · rw [ha 0 (by omega) (by omega)]
    decide
  · rw [hb1 i i0 (by omega)]
    exact gh_ib01
  · rw [hb1 i i0 (by omega)] at w
    by_cases e : i = 0 ∧ m 82 0 < 1000000000
    · rw [e.1]
      exact gt_S_cl.1 (hst.mp e.2)
    · rw [if_neg e] at w
      exact absurd rfl w
  · rw [hb1 0 (by omega) (by omega), if_pos ⟨rfl, hst.mpr w⟩]
    decide
  · rw [hb1 x x0 (by omega)] at w
    rw [ha x x0 (by omega)]
    by_cases e : x = 0 ∧ m 82 0 < 1000000000
    · rw [if_pos e.1]
      decide
    · rw [if_neg e] at w
      exact absurd rfl w
  rintro v m2 ⟨v0, v1, hx2, ⟨a1, a2, a3, a4⟩, ⟨b1, b2, b3, b4⟩, c12⟩
  unfold f_Model_findStanding_58
  have cm2 := gm_D_x hx2 (by decide) hD
  rw [cm2.1]
  refine ⟨by omega, fun c2 => ?_, fun c2 => ?_⟩
  · have keep : ∀ m3, gx [99, 100] m m3 → m3 63 = m 63 ∧ m3 79 = m 79 ∧ m3 80 = m 80 ∧ m3 81 = m 81 ∧ m3 83 = m 83 ∧ m3 98 = m 98 := fun m3 x3 => ⟨x3 63 (by decide), x3 79 (by decide), x3 80 (by decide), x3 81 (by decide), x3 83 (by decide), x3 98 (by decide)⟩
    refine ⟨fun k m3 => 0 ≤ k ∧ k ≤ 4 * gm_R G ∧ gx [99, 100] m m3 ∧ gd_sp G z t U st (fun k' _ _ => k' < k) m2 m3, fun k _ => (100 - k).toNat, ⟨by omega, by omega, hx2, gq_init a1 a2 ?_, gq_init b1 b2 ?_, c12⟩, ?_⟩
    · rintro P y ⟨r, d, i, j, h1, h2, h3, h4, h5, _⟩
      omega
    · rintro P y ⟨r, d, i, j, h1, h2, h3, h4, h5, _⟩
      omega
    rintro k m3 ⟨k0, k1, hx3, ps⟩
    obtain ⟨f63, f79, f80, f81, f83, f98⟩ := keep m3 hx3
    unfold f_Model_findStanding_71
    rw [f63, hD.2.1]
    refine ⟨by omega, fun c3 => ⟨k0, ?_⟩, fun c3 => ⟨by omega, ⟨by omega, by omega, hx3, ?_, ?_, ?_⟩, by (try dsimp only); omega⟩⟩
    · rintro _ rfl
      refine ⟨k0, ?_⟩
      rintro _ rfl
      have r0 : 0 ≤ k / 4 := by omega
      have r1 : k / 4 < gm_R G := by omega
      obtain ⟨g1, g2, g3, g4, g5⟩ := hG.2.2.2.2.1 (k / 4) r0 r1
      obtain ⟨d1, d2, d3⟩ := hD.2.2 (k / 4) r0 r1
      have kk : 4 * (k / 4) + k % 4 = k := by omega
      refine ⟨fun i m4 => 0 ≤ i ∧ i ≤ z + 1 ∧ gx [99, 100] m m4 ∧ gd_sp G z t U st (fun k' i' _ => k' < k ∨ (k' = k ∧ i' < i)) m2 m4, fun i _ => (20 - i).toNat, ⟨by omega, by omega, hx3, gd_sp_w hG z8 ps (fun r d i j _ _ _ _ _ _ _ _ _ w => Or.inl (by omega))⟩, ?_⟩
      rintro i m4 ⟨i0, i1, hx4, ps4⟩
      obtain ⟨q63, q79, q80, q81, q83, q98⟩ := keep m4 hx4
      unfold f_Model_findStanding_93
      rw [q63, ez, q80, d2, q81]
      refine ⟨fun m5 => gx [99, 100] m m5 ∧ gd_sp G z t U st (fun k' _ _ => k' < k + 1) m2 m5, fun m5 j => ⟨by omega, ⟨by omega, by omega, j.1, j.2⟩, by (try dsimp only); omega⟩, fun c4 => ⟨r0, by omega, fun _ => by omega⟩, fun c4 => ?_, fun c4 => ⟨hx4, gd_sp_w hG z8 ps4 (fun r d i' j' r0' r1' d0' d1' x1 x2 x3 nn _ w => Or.inl ?_)⟩⟩
      · obtain ⟨c5, c6, c7⟩ := c4
        have pe := d3 (k % 4) (by omega) c6
        rw [kk] at pe
        have w := gm_p_n hG r0 r1 (d := k % 4) (by omega) c6
        have ne : -1 - m 81 k = gm_n G (k / 4) (k % 4) := by omega
        have nn : gm_n G (k / 4) (k % 4) ≠ -1 := by omega
        refine ⟨fun j m5 => i ≤ j ∧ j ≤ z + 1 ∧ gx [99, 100] m m5 ∧ gd_sp G z t U st (fun k' i' j' => k' < k ∨ (k' = k ∧ (i' < i ∨ (i' = i ∧ j' < j)))) m2 m5, fun j _ => (20 - j).toNat, ⟨by omega, by omega, hx4, gd_sp_w hG z8 ps4 (fun r d i' j' _ _ _ _ _ _ _ _ _ w => Or.inl (by omega))⟩, ?_⟩
        rintro j m5 ⟨j0, j1, hx5, ps5⟩
        obtain ⟨y63, y79, y80, y81, y83, y98⟩ := keep m5 hx5
        unfold f_Model_findStanding_126
        rw [y63, ez, y79, d1, y83, y98, y81]
        refine ⟨fun m6 => gx [99, 100] m m6 ∧ gd_sp G z t U st (fun k' i' _ => k' < k ∨ (k' = k ∧ i' < i + 1)) m2 m6, fun m6 j => ⟨by omega, ⟨by omega, by omega, j.1, j.2⟩, by (try dsimp only); omega⟩, fun _ => by omega, fun c8 => ⟨hx5, gd_sp_w hG z8 ps5 (fun r d i' j' r0' r1' d0' d1' x1 x2 x3 _ _ w => ?_)⟩, fun c8 => ⟨by omega, by omega, by omega, ?_⟩⟩
        · by_cases e : 4 * r + d = k ∧ i' = i ∧ j ≤ j'
          · obtain ⟨e1, e2, e3⟩ := e
            have s4 := (hG.2.2.2.2.1 r r0' r1').2.2.2.1
            have er : k / 4 = r := by omega
            have zz : m5 99 (9 * gm_o G (k / 4) + i) = 0 := by omega
            rw [er] at zz
            rw [e2]
            exact Or.inr zz
          · exact Or.inl (by omega)
        · have jz : j ≤ z := by omega
          have stn : m5 99 (9 * gm_o G (k / 4) + i) ≠ 0 := fun y => c8 (Or.inr y)
          refine ⟨fun m6 => gx [99, 100] m m6 ∧ gd_sp G z t U st (fun k' i' j' => k' < k ∨ (k' = k ∧ (i' < i ∨ (i' = i ∧ j' < j + 1)))) m2 m6, fun m6 jj => ⟨by omega, ⟨by omega, by omega, jj.1, jj.2⟩, by (try dsimp only); omega⟩, fun c9 => ⟨hx5, gd_sp_w hG z8 ps5 (fun r d i' j' r0' r1' d0' d1' x1 x2 x3 _ row w => Or.inl ?_)⟩, fun c9 => ?_⟩
          · by_cases e : 4 * r + d = k ∧ i' = i ∧ j' = j
            · obtain ⟨e1, e2, e3⟩ := e
              have s4 := (hG.2.2.2.2.1 r r0' r1').2.2.2.1
              have er : k / 4 = r := by omega
              have ed : k % 4 = d := by omega
              rw [e2, e3, ← er, ← ed] at row
              exact absurd c9 ((hb (k / 4) (k % 4) i j r0 r1 (by omega) (by omega) i0 (by omega) (by omega) jz).mpr row)
            · omega
          · have row := (hb (k / 4) (k % 4) i j r0 r1 (by omega) (by omega) i0 (by omega) (by omega) jz).mp c9
            rw [ne]
            unfold w_Model_stand
            refine ⟨by omega, by omega, by omega, r0, by omega, by omega, by omega, by omega, by omega, fun _ => by omega, by omega, by omega, by omega, by omega, by omega, by omega, by omega, by omega, by omega, by omega, by omega, by omega, gx_u (gx_u hx5 (by decide)) (by decide), ?_, ?_, ?_⟩
            · rw [gm_u_row2 (by decide), gm_u_rowa]
              refine gq_set (P0 := fun x => x = 9 * gm_o G (k / 4) + i) (wf1 _ _) ⟨k / 4, k % 4, i, j, r0, r1, by omega, c6, trivial, trivial, nn, i0, j0, jz, row, rfl, rfl, fun x => id⟩ ps5.1 (fun y => ?_) (Or.inr rfl) ⟨fun _ => Or.inr (fun x hx => by rw [hx]; exact stn), fun _ => by decide⟩ (fun P y q => ?_)
              · have y2 := y _ rfl
                have e1 : (9 * gm_o G (k / 4) + i) / 9 = gm_o G (k / 4) := by omega
                have e2 : (9 * gm_o G (k / 4) + i) % 9 = i := by omega
                have e3 : (9 * gm_n G (k / 4) (k % 4) + j) / 9 = gm_n G (k / 4) (k % 4) := by omega
                have e4 : (9 * gm_n G (k / 4) (k % 4) + j) % 9 = j := by omega
                rw [e1, e2] at y2
                rw [e3, e4]
                exact gt_S_cl.2 _ _ i j r0 r1 (by omega) c6 trivial nn i0 (by omega) y2 row
              · obtain ⟨r, d, i', j', r0', r1', d0', d1', w1, w2, w3, w4, w5, w6, w7, w8, w9, w10⟩ := q
                by_cases e : 4 * r + d = k ∧ i' = i ∧ j' = j
                · obtain ⟨e1, e2, e3⟩ := e
                  have s4 := (hG.2.2.2.2.1 r r0' r1').2.2.2.1
                  have er : k / 4 = r := by omega
                  have ed : k % 4 = d := by omega
                  rw [er, ed]
                  refine Or.inr ⟨by rw [w8, e3], fun x hx => ?_⟩
                  rw [hx, ← e2]
                  exact w9
                · exact Or.inl ⟨r, d, i', j', r0', r1', d0', d1', by omega, w2, w3, w4, w5, w6, w7, w8, w9, w10⟩
            · rw [gm_u_rowa, gm_u_row2 (by decide)]
              have hu := hU (k / 4) r0 r1
              by_cases us : U (k / 4)
              · refine gq_set (P0 := fun x => x = 9 * gm_o G (k / 4) + i) (wf1 _ _) ⟨k / 4, k % 4, i, j, r0, r1, by omega, c6, trivial, us, nn, i0, j0, jz, row, rfl, rfl, fun x => id⟩ ps5.2.1 (fun y => ?_) gh_ib01 ?_ (fun P y q => ?_)
                · have y2 := y _ rfl
                  have e1 : (9 * gm_o G (k / 4) + i) / 9 = gm_o G (k / 4) := by omega
                  have e2 : (9 * gm_o G (k / 4) + i) % 9 = i := by omega
                  have e3 : (9 * gm_n G (k / 4) (k % 4) + j) / 9 = gm_n G (k / 4) (k % 4) := by omega
                  have e4 : (9 * gm_n G (k / 4) (k % 4) + j) % 9 = j := by omega
                  rw [e1, e2] at y2
                  rw [e3, e4]
                  exact gt_S_cl.2 _ _ i j r0 r1 (by omega) c6 us nn i0 (by omega) y2 row
                · have un := hu.mpr us
                  constructor
                  · intro y
                    by_cases q1 : m5 100 (9 * gm_n G (k / 4) (k % 4) + j) = 0
                    · by_cases q2 : m5 100 (9 * gm_o G (k / 4) + i) = 0
                      · exfalso
                        apply y
                        rw [if_neg (fun u => u.elim (fun a => a q1) (fun a => a (if_neg (fun b => b.1 q2))))]
                      · exact Or.inr (fun x hx => by rw [hx]; exact q2)
                    · exact Or.inl q1
                  · intro y
                    rcases y with y | y
                    · rw [if_pos (Or.inl y)]
                      decide
                    · have y2 := y _ rfl
                      rw [if_pos (Or.inr (by rw [if_pos ⟨y2, un⟩]; decide))]
                      decide
                · obtain ⟨r, d, i', j', r0', r1', d0', d1', w1, w2, w3, w4, w5, w6, w7, w8, w9, w10⟩ := q
                  by_cases e : 4 * r + d = k ∧ i' = i ∧ j' = j
                  · obtain ⟨e1, e2, e3⟩ := e
                    have s4 := (hG.2.2.2.2.1 r r0' r1').2.2.2.1
                    have er : k / 4 = r := by omega
                    have ed : k % 4 = d := by omega
                    rw [er, ed]
                    refine Or.inr ⟨by rw [w8, e3], fun x hx => ?_⟩
                    rw [hx, ← e2]
                    exact w9
                  · exact Or.inl ⟨r, d, i', j', r0', r1', d0', d1', by omega, w2, w3, w4, w5, w6, w7, w8, w9, w10⟩
              · have un : m 83 (k / 4) = 0 := Classical.byContradiction (fun y => us (hu.mp y))
                have same : gm_upd (m5 100) (9 * gm_n G (k / 4) (k % 4) + j) (if ¬ m5 100 (9 * gm_n G (k / 4) (k % 4) + j) = 0 ∨ ¬ (if ¬ m5 100 (9 * gm_o G (k / 4) + i) = 0 ∧ ¬ m 83 (k / 4) = 0 then (1 : Int) else 0) = 0 then 1 else 0) = m5 100 := by
                  funext x
                  unfold gm_upd
                  split
                  · next e =>
                    have bb := ps5.2.1.1 (9 * gm_n G (k / 4) (k % 4) + j) (by omega) (by omega)
                    rw [e, if_neg (fun y : ¬ m5 100 (9 * gm_o G (k / 4) + i) = 0 ∧ ¬ m 83 (k / 4) = 0 => y.2 un)]
                    by_cases q : m5 100 (9 * gm_n G (k / 4) (k % 4) + j) = 0
                    · rw [if_neg (fun y => y.elim (fun u => u q) (fun u => u rfl)), q]
                    · rw [if_pos (Or.inl q)]
                      omega
                  · rfl
                have lhs : gq_ps (9 * gm_N G).toNat (gd_sd G z t U (fun _ _ _ => True)) (gd_sd G z t U (fun k' i' j' => k' < k ∨ (k' = k ∧ (i' < i ∨ (i' = i ∧ j' < j + 1))))) (fun x => gt_S G z t U st (x / 9) (x % 9)) (m2 100) (m5 100) := by
                  refine gq_skip (wf1 _ _) ps5.2.1 (fun P y q => Or.inl ?_)
                  obtain ⟨r, d, i', j', r0', r1', d0', d1', w1, w2, w3, w4, w5, w6, w7, w8, w9, w10⟩ := q
                  by_cases e : 4 * r + d = k
                  · have s4 := (hG.2.2.2.2.1 r r0' r1').2.2.2.1
                    have er : k / 4 = r := by omega
                    rw [er] at us
                    exact absurd w2 us
                  · exact ⟨r, d, i', j', r0', r1', d0', d1', by omega, w2, w3, w4, w5, w6, w7, w8, w9, w10⟩
                rw [same]
                exact lhs
            · intro x x0 x1 y
              by_cases e : x = 9 * gm_n G (k / 4) (k % 4) + j
              · rw [e, gh_u_a (by decide), gh_u_s]
                decide
              · rw [gh_u_i e, gh_u_a (by decide)] at y
                rw [gh_u_a (by decide), gh_u_i e]
                exact ps5.2.2 x x0 x1 y
      · have s4 := (hG.2.2.2.2.1 r r0' r1').2.2.2.1
        by_cases e : 4 * r + d = k
        · have er : k / 4 = r := by omega
          have ed : k % 4 = d := by omega
          have pe := d3 (k % 4) (by omega) (by rw [er, ed]; exact d1')
          rw [kk, er, ed] at pe
          have w := gm_p_n hG r0' r1' (d := d) d0' d1'
          have c8 : ¬ (i ≤ z ∧ k % 4 < gm_s G (k / 4) ∧ m 81 k < 0) := c4
          rw [er, ed, pe] at c8
          omega
        · omega
    · have e : k = 4 * gm_R G := by omega
      subst e
      have ps2 : gd_sp G z t U st (fun _ _ _ => True) m2 m3 := gd_sp_w hG z8 ps (fun r d i j r0 r1 d0 d1 _ _ _ _ _ _ => Or.inl (by have := (hG.2.2.2.2.1 r r0 r1).2.2.2.1; omega))
      exact ⟨ps2.1.1, ps2.1.2.2.1, ps2.1.2.1 0 (by omega) (by omega) a3, gq_round (wf1 _ _) ps2.1 a4⟩
    · have e : k = 4 * gm_R G := by omega
      subst e
      have ps2 : gd_sp G z t U st (fun _ _ _ => True) m2 m3 := gd_sp_w hG z8 ps (fun r d i j r0 r1 d0 d1 _ _ _ _ _ _ => Or.inl (by have := (hG.2.2.2.2.1 r r0 r1).2.2.2.1; omega))
      exact ⟨ps2.2.1.1, ps2.2.1.2.2.1, fun y => ps2.2.1.2.1 0 (by omega) (by omega) (b3 y), gq_round (wf1 _ _) ps2.2.1 b4⟩
    · exact ps.2.2
  · have k1 := gq_full (wf1 _ _) (by omega) a4
    have k2 := gq_full (wf1 _ _) (by omega) b4
    refine h m2 hx2 (fun n i n0 n1 i0 i1 => ?_)
    have e1 : (9 * n + i) / 9 = n := by omega
    have e2 : (9 * n + i) % 9 = i := by omega
    have s1 := a2 (9 * n + i) (by omega) (by omega)
    have s2 := b2 (9 * n + i) (by omega) (by omega)
    rw [e1, e2] at s1 s2
    refine ⟨⟨s1, fun w => ?_⟩, ⟨s2, fun w => ?_⟩⟩
    · refine w (fun n i => m2 99 (9 * n + i) ≠ 0) ⟨fun _ => a3, fun r d i j r0 r1 d0 d1 _ nn i0 i1 w1 w2 => ?_⟩
      have y := gt_row_M hG i1 w2
      exact k1 (fun x => x = 9 * gm_o G r + i) _ ⟨r, d, i, j, r0, r1, d0, d1, trivial, trivial, nn, i0, y.1, y.2, w2, rfl, rfl, fun x => id⟩ (fun x hx => by rw [hx]; exact w1)
    · refine w (fun n i => m2 100 (9 * n + i) ≠ 0) ⟨b3, fun r d i j r0 r1 d0 d1 u nn i0 i1 w1 w2 => ?_⟩
      have y := gt_row_M hG i1 w2
      exact k2 (fun x => x = 9 * gm_o G r + i) _ ⟨r, d, i, j, r0, r1, d0, d1, trivial, u, nn, i0, y.1, y.2, w2, rfl, rfl, fun x => id⟩ (fun x hx => by rw [hx]; exact w1)
