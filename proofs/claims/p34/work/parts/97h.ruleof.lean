/-! PICKING: the class finds the rule -/
def gk_u2 (G : gm_G) (z : Int) (t : Int → Int) (ci cj : Int) (m : gh_M) : Prop := m 41 7 = 66 → ∀ n h, 0 ≤ n → n < gm_N G → 0 < h → h < 256 → ci < cj → m 67 ((8 + n) * 256 + h) = m 41 9 → m 66 ((8 + n) * 256 + h) = gk_C G z t n ci cj (gb h)
def gk_pk (gk_K : Int) (G : gm_G) (z : Int) (t : Int → Int) (ci cj : Int) (m : gh_M) : Prop := gk_fo gk_K G z t m ∧ z ≤ m 41 11 ∧ gk_u2 G z t ci cj m
theorem gk_pk_st {gk_K : Int} {G : gm_G} {z : Int} {t : Int → Int} {ci cj i j : Int} {m : gh_M} (z0 : 0 ≤ z) (i0 : 0 ≤ i) (ij : i ≤ j) (jz : j ≤ z) (h : gk_pk gk_K G z t ci cj m) : gk_st gk_K G z t i j ci cj m := by
  obtain ⟨⟨h1, h2, h3, h4, h5, h6, h7⟩, h8, h9⟩ := h
  obtain ⟨u1, u2, u3⟩ := h7 (by omega)
  exact ⟨h1, fun y n h n0 n1 h0 h1 => ⟨u3 y n h n0 n1 h0 h1, h9 y n h n0 n1 h0 h1⟩, fun n k e n0 n1 ik ke ej _ => h6 n k e n0 n1 (by omega) ke (by omega), fun n n0 n1 => Or.inr (h6 n i j n0 n1 i0 ij (by omega)), by omega, u1, u2, h5⟩
theorem gk_st_pk {gk_K : Int} {G : gm_G} {z : Int} {t : Int → Int} {ci cj i j D : Int} {m m2 : gh_M} (hG : gm_ok G) (h : gk_pk gk_K G z t ci cj m) (fx : gk_fx D i j m m2) (st : gk_st gk_K G z t i j ci cj m2) : gk_pk gk_K G z t ci cj m2 := by
  obtain ⟨⟨h1, h2, h3, h4, h5, h6, h7⟩, h8, h9⟩ := h
  obtain ⟨s1, s2, s3, s4, s5, s6, s7, s8⟩ := st
  have e11 : m2 41 11 = m 41 11 := fx.2.1 11 (by decide) (by decide)
  refine ⟨⟨s1, by omega, by omega, by omega, s8, fun n k e n0 n1 k0 ke er => ?_, fun _ => ⟨s6, s7, fun y n h n0 n1 h0 h1 => (s2 y n h n0 n1 h0 h1).1⟩⟩, by omega, fun y n h n0 n1 h0 h1 => (s2 y n h n0 n1 h0 h1).2⟩
  rw [e11] at er
  have e := h6 n k e n0 n1 k0 ke er
  rw [fx.2.2.2.2.2 _ (by rw [e]; exact (gk_C_b hG _ _ _ _).1)]
  exact e
theorem gk_pk_x {gk_K : Int} {G : gm_G} {z : Int} {t : Int → Int} {ci cj : Int} {S : List Int} {m m2 : gh_M} (hx : gx S m m2) (hS : (0 : Int) ∉ S ∧ (41 : Int) ∉ S ∧ (42 : Int) ∉ S ∧ (66 : Int) ∉ S ∧ (67 : Int) ∉ S) (h : gk_pk gk_K G z t ci cj m) : gk_pk gk_K G z t ci cj m2 := by
  refine ⟨gk_fo_x hx hS h.1, ?_, ?_⟩
  · rw [hx 41 hS.2.1]
    exact h.2.1
  · unfold gk_u2
    rw [hx 41 hS.2.1, hx 66 hS.2.2.2.1, hx 67 hS.2.2.2.2]
    exact h.2.2
/-- a new turn -/
theorem gk_pk_turn {gk_K : Int} {G : gm_G} {z : Int} {t : Int → Int} {ci cj ci2 cj2 : Int} {m : gh_M} (z0 : 0 ≤ z) (h : gk_pk gk_K G z t ci cj m) : gk_pk gk_K G z t ci2 cj2 (gh_u m 41 9 (m 41 9 + 1)) := by
  obtain ⟨⟨h1, h2, h3, h4, h5, h6, h7⟩, h8, h9⟩ := h
  have hx : gx [41] m (gh_u m 41 9 (m 41 9 + 1)) := gx_one _ _ _ _
  have o : ∀ x, x ≠ 9 → gh_u m 41 9 (m 41 9 + 1) 41 x = m 41 x := fun x y => gh_u_i y
  have e9 : gh_u m 41 9 (m 41 9 + 1) 41 9 = m 41 9 + 1 := gh_u_s _ _ _ _
  refine ⟨⟨?_, by rw [o 11 (by decide)]; exact h2, by rw [o 11 (by decide)]; exact h3, by omega, ?_, ?_, fun _ => ?_⟩, by rw [o 11 (by decide)]; exact h8, fun y n h n0 n1 h0 h1' _ w => ?_⟩
  · unfold gk_mem
    rw [o 7 (by decide), o 8 (by decide), hx 0 (by decide)]
    exact h1
  · rw [o 7 (by decide), e9, hx 67 (by decide)]
    exact fun y x => by
      have := h5 y x
      omega
  · rw [o 11 (by decide), hx 42 (by decide)]
    exact h6
  · obtain ⟨u1, u2, u3⟩ := h7 (by omega)
    refine ⟨by rw [o 10 (by decide)]; exact u1, by rw [o 10 (by decide), e9]; omega, ?_⟩
    unfold gk_ue
    rw [o 7 (by decide), o 10 (by decide), hx 67 (by decide), hx 66 (by decide)]
    exact u3
  · rw [o 7 (by decide)] at y
    rw [e9, hx 67 (by decide)] at w
    have := h5 y ((8 + n) * 256 + h)
    omega
/-- names below a name over the same letters, for counting -/
theorem gp_hs {G : gm_G} {E : Int} {O : Int → Int} (hG : gm_ok G) (fa : gk_fa G E O) {r n d B A : Int} (r0 : 0 ≤ r) (r1 : r < gm_R G) (d0 : 0 ≤ d) (d1 : d < gm_s G r) (ro : gm_o G r = n) (n0 : 0 ≤ n) (n1 : n < gm_N G) (hB : gbs 8 B) (hO : ∀ h, 0 ≤ h → h < gm_N G → gb B h → gb (O h) n) (hA : A = gh_ior_f B (gh_ishl_f 1 n)) (hn : gm_n G r d ≠ -1) (er : gm_er G E r 0 d) : gk_hs G O (gm_n G r d) A 1 := by
  have hN := hG.2.1
  have nn := gm_n_rng hG r0 r1 d0 d1
  have o1 := gk_O1 hG fa r0 r1 d0 d1 hn er
  rw [ro] at o1
  have bA : ∀ x, 0 ≤ x → (gb A x ↔ gb B x ∨ x = n) := fun x x0 => by
    rw [hA, gb_ior (n := 8) (by decide) hB (gbs_one n0 (by omega) (by decide)), gb_ishl1 n0 (by omega) x0]
  refine ⟨fun h => gb A h ∧ h < gm_N G, ?_, fun h h0 h1 y => ?_, fun h h0 h1 y => y.2, fun h h0 h1 y _ => y.1⟩
  · have := gk_fr_lt (A := fun _ => False) (B := fun h => gb A h ∧ h < gm_N G) (fun x y => False.elim y) n0 (by omega) id ⟨(bA n n0).mpr (Or.inr rfl), n1⟩
    have := gk_fr_le (fun _ => False)
    omega
  · rcases (bA h h0).mp y.1 with y | y
    · exact gk_O2 fa h0 h1 n0 n1 (by omega) (hO h h0 h1 y) o1
    · rw [y]
      exact o1
theorem gp_ruleOf {gk_K : Int} {G : gm_G} {z : Int} {t : Int → Int} {E : Int} {O : Int → Int} {m : gh_M} {Q : Int → gh_M → Prop} {n x i j B A k ci cj : Int} (hG : gm_ok G) (fa : gk_fa G E O) (cx : gk_cx G z t O m) (pk : gk_pk gk_K G z t ci cj m) (x0 : 0 ≤ x) (x1 : x < 289) (e51 : m 51 x = i) (e52 : m 52 x = j) (e53 : m 53 x = B) (e55 : m 55 x = k) (n0 : 0 ≤ n) (n1 : n < gm_N G) (i0 : 0 ≤ i) (ij : i ≤ j) (jz : j ≤ z) (hB : gbs 8 B) (nB : ¬ gb B n) (hO : ∀ h, 0 ≤ h → h < gm_N G → gb B h → gb (O h) n) (hA : A = gh_ior_f B (gh_ishl_f 1 n)) (hcur : i < j → B ≠ 0 → i = ci ∧ j = cj) (k0 : 0 ≤ k) (k1 : k < gk_C G z t n i j (gb B)) (tb : m 41 9 < 2147483000) (H : ∀ r k2 m2 ci2 cj2, gp_rule G z t n i j A k r k2 → gx [0, 41, 42, 43, 44, 55, 66, 67] m m2 → (∀ y, y < 7 → m2 41 y = m 41 y) → gk_pk gk_K G z t ci2 cj2 m2 → (i < j → ci2 = i ∧ cj2 = j) → (¬ i < j → ci2 = ci ∧ cj2 = cj) → m2 41 9 ≤ m 41 9 + 1 → (∀ y, y ≠ x → m2 55 y = m 55 y) → m2 55 x = k2 → (∀ d p, 0 ≤ d → d ≤ gm_s G r → i ≤ p → p ≤ j → gt_row G z t (gt_M G z t) r d i p → m2 43 (d * 9 + p) = gk_R G z t r i j (gb A) d p) → Q r m2) : w_Picker_ruleOf n x m Q := by
  have hN := hG.2.1
  have hR := hG.2.2.2.1
  have z8 : z ≤ 8 := by
    have := cx.2.1.2.1
    have := cx.2.2.2.2.1
    omega
  obtain ⟨g1, g2, g3, g4⟩ := cx.2.2.2.1 n n0 n1
  refine ⟨x0, x1, ?_⟩
  rw [e53, ← hA]
  intro v3 hv3
  rw [hv3, e51, e52]
  clear hv3 v3
  have gA : gbs 8 A := by
    rw [hA]
    exact gbs_or (by decide) hB (gbs_one n0 (by omega) (by decide))
  have bA : ∀ x, 0 ≤ x → (gb A x ↔ gb B x ∨ x = n) := fun x x0 => by
    rw [hA, gb_ior (n := 8) (by decide) hB (gbs_one n0 (by omega) (by decide)), gb_ishl1 n0 (by omega) x0]
  -- from the turn on
  have go : ∀ m1 ci2 cj2, gx [41] m m1 → (∀ y, y < 7 → m1 41 y = m 41 y) → gk_pk gk_K G z t ci2 cj2 m1 → (i < j → ci2 = i ∧ cj2 = j) → (¬ i < j → ci2 = ci ∧ cj2 = cj) → m1 41 9 ≤ m 41 9 + 1 → ∀ v4, v4 = m1 14 n → gh_M1 (fun K53 v4 m => f_Picker_ruleOf_53 n x A Q K53 v4 m) v4 m1 := by
    intro m1 ci2 cj2 hx1 o1 pk1 c1 c2 t1
    rw [hx1 14 (by decide)]
    rintro _ rfl
    have st1 := gk_pk_st (i := i) (j := j) (by omega) i0 ij jz pk1
    have Fnn : ∀ r : Nat, (r : Int) ≤ gm_R G → 0 ≤ gsum (gp_F G z t n i j A) r := fun r hr => gsum_nn _ (fun y y0 y1 => gp_F_nn hG y0 (by omega))
    refine ⟨fun r m2 => m 14 n ≤ r ∧ r ≤ m 14 n + m 15 n ∧ gx [0, 41, 42, 43, 44, 55, 66, 67] m1 m2 ∧ (∀ y, y ≠ 7 → y ≠ 8 → m2 41 y = m1 41 y) ∧ gk_st gk_K G z t i j ci2 cj2 m2 ∧ gk_pk gk_K G z t ci2 cj2 m2 ∧ (∀ y, y ≠ x → m2 55 y = m 55 y) ∧ 0 ≤ m2 55 x ∧ k = gsum (gp_F G z t n i j A) r.toNat + m2 55 x, fun r _ => (30 - r).toNat, ⟨Int.le_refl _, by omega, gx_rf, fun _ _ _ => rfl, st1, pk1, fun y _ => by rw [hx1 55 (by decide)], by rw [hx1 55 (by decide), e55]; exact k0, ?_⟩, ?_⟩
    · rw [gsum_z (f := gp_F G z t n i j A) (m 14 n).toNat (fun y y0 y1 => gt_if_f (fun u => by
        have := (g4 y y0 (by omega)).mp u
        omega)), hx1 55 (by decide), e55]
      omega
    rintro r m2 ⟨ra, rb, hx2, o2, st2, pk2, h55, l0, hk⟩
    have hx02 : gx [0, 41, 42, 43, 44, 55, 66, 67] m m2 := fun a ha => (hx2 a ha).trans (hx1 a (fun y => ha (by rw [List.mem_singleton.mp y]; decide)))
    have cx2 := gk_cx_x hx02 (by decide) cx
    unfold f_Picker_ruleOf_53 k_Grammar_behindRules x_Grammar_behindRules
    rw [hx02 14 (by decide), hx02 15 (by decide), hx02 51 (by decide), hx02 52 (by decide), e51, e52]
    refine ⟨⟨n0, by omega, n0, by omega, by omega⟩, fun c => ⟨x0, x1, x0, x1, ?_⟩, fun c => ?_⟩
    rotate_left
    · -- there is such a rule
      have er : r = m 14 n + m 15 n := by omega
      have all : gsum (gp_F G z t n i j A) (gm_R G).toNat = gsum (gp_F G z t n i j A) r.toNat := by
        have e : (gm_R G).toNat = r.toNat + ((gm_R G).toNat - r.toNat) := by omega
        rw [e]
        exact gsum_ext _ (fun y y0 y1 => gt_if_f (fun u => by
          have := (g4 y (by omega) (by omega)).mp u
          omega))
      have e2 : gsum (gp_F G z t n i j A) (gm_R G).toNat = gsum (fun r => gt_if (gm_o G r = n) (gk_R G z t r i j (fun x => gb B x ∨ x = n) 0 i)) (gm_R G).toNat := gsum_cg _ (fun y y0 y1 => by
        unfold gp_F
        rw [gk_R_cg hG fa.1 y0 (by omega) (Int.le_refl _) (Int.le_refl _) (fun x x0 _ => bA x x0)])
      have e3 := gk_eq2 hG (z := z) (t := t) (A := gb B) n0 n1 i0 ij jz (by omega) nB
      rw [← e2, all] at e3
      omega
    have r0 : 0 ≤ r := by omega
    have r1 : r < gm_R G := by omega
    have ro : gm_o G r = n := (g4 r r0 r1).mpr ⟨ra, c⟩
    have hcc : i < j → ci2 = i ∧ cj2 = j := c1
    refine gk_byRule (REC := gh_rec 10) hG fa r0 r1 i0 ij jz (Int.le_refl _) (by decide) (fun d m3 Q1 d0 d1 hn er cx3 st3 H3 => ?_) cx2 st2 (fun m3 fx3 st3 tab => ?_)
    · have nn := gm_n_rng hG r0 r1 d0 d1
      exact gk_countOf hG fa i0 ij jz z8 hcc 10 (gm_n G r d) A (0 + 1) m3 Q1 (by decide) (by omega) (by omega) gA (by decide) (by decide) (fun mm => gp_hs hG fa r0 r1 d0 d1 ro n0 n1 hB hO hA hn (er mm)) cx3 st3 H3
    · have Rb := gk_R_b hG (z := z) (t := t) (i := i) (j := j) (B := gb A) (d := 0) (k := i) r0 r1 (Int.le_refl _)
      have e553 : m3 55 = m2 55 := fx3.1 55 (by decide)
      have pk3 := gk_st_pk hG pk2 fx3 st3
      have hx3 : gx [0, 41, 42, 43, 44, 55, 66, 67] m1 m3 := gx_tr (T := [0, 41, 42, 43, 44, 55, 66, 67]) hx2 (gx_sub fx3.1 (by decide))
      have Fr : gp_F G z t n i j A r = gk_R G z t r i j (gb A) 0 i := by
        unfold gp_F
        exact gt_if_t ro
      have F0 := Fnn r.toNat (by omega)
      have C1 := (gk_C_b hG (z := z) (t := t) n i j (gb B)).2
      rw [e553]
      refine ⟨x0, x1, fun lt => H r (m2 55 x) m3 ci2 cj2 ⟨r0, r1, ro, hk, l0, lt⟩ (fun a ha => (hx3 a ha).trans (hx1 a (fun y => ha (by rw [List.mem_singleton.mp y]; decide)))) (fun y y7 => ?_) pk3 c1 c2 ?_ (fun y yx => ?_) ?_ (fun d p d0 d1 ip pj w => ?_), fun ge => ⟨x0, x1, by omega, x0, x1, by omega, ⟨by omega, by omega, gx_u hx3 (by decide), fun y y7 y8 => ?_, gk_st_x (gx_one m3 55 x (m2 55 x - gk_R G z t r i j (gb A) 0 i)) (by decide) st3, gk_pk_x (gx_one m3 55 x (m2 55 x - gk_R G z t r i j (gb A) 0 i)) (by decide) pk3, fun y yx => ?_, by rw [gh_u_s]; omega, ?_⟩, by (try dsimp only); omega⟩⟩
      · rw [fx3.2.1 y (by omega) (by omega), o2 y (by omega) (by omega)]
        exact o1 y y7
      · rw [fx3.2.1 9 (by decide) (by decide), o2 9 (by decide) (by decide)]
        exact t1
      · rw [e553]
        exact h55 y yx
      · rw [e553]
      · have := tab d p d0 d1 ip pj w
        have e : 0 * 45 + d * 9 + p = d * 9 + p := by omega
        rw [e] at this
        exact this
      · rw [gh_u_a (by decide), fx3.2.1 y y7 y8]
        exact o2 y y7 y8
      · rw [gh_u_i yx, e553]
        exact h55 y yx
      · rw [gh_u_s]
        have e : (r + 1).toNat = r.toNat + 1 := by omega
        rw [e]
        show k = gsum _ r.toNat + gp_F G z t n i j A (r.toNat : Int) + _
        have e2 : (r.toNat : Int) = r := by omega
        rw [e2, Fr]
        omega
  have t0 := pk.1.2.2.2.1
  refine ⟨x0, x1, x0, x1, fun m1 => ∃ ci2 cj2, gx [41] m m1 ∧ (∀ y, y < 7 → m1 41 y = m 41 y) ∧ gk_pk gk_K G z t ci2 cj2 m1 ∧ (i < j → ci2 = i ∧ cj2 = j) ∧ (¬ i < j → ci2 = ci ∧ cj2 = cj) ∧ m1 41 9 ≤ m 41 9 + 1, fun m1 ⟨ci2, cj2, a1, a2, a3, a4, a5, a6⟩ => ⟨n0, by omega, go m1 ci2 cj2 a1 a2 a3 a4 a5 a6⟩, fun _ => ⟨x0, x1⟩, fun c => ⟨by omega, i, j, gx_one _ _ _ _, fun y y7 => gh_u_i (by omega), gk_pk_turn (by omega) pk, fun _ => ⟨rfl, rfl⟩, fun y => absurd c.1 y, by rw [gh_u_s]; exact Int.le_refl _⟩, fun c => ⟨ci, cj, gx_sub (S := []) gx_rf (by decide), fun _ _ => rfl, pk, fun y => ?_, fun _ => ⟨rfl, rfl⟩, by omega⟩⟩
  have := hcur y (fun u => c ⟨y, u⟩)
  exact ⟨this.1.symm, this.2.symm⟩

