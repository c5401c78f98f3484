/-! ITEMS AND LETTERS THAT MAY COME: the model's, and one item on both sides -/
theorem gl_isItemAt {m : gh_M} {G : gm_G} {z : Int} {t : Int → Int} {U : Int → Prop} {s : Prop} (hG : gm_ok G) (hD : gm_D m G) (z8 : z ≤ 8) (ch : gd_ch G z t U s m) {r d i k : Int} (r0 : 0 ≤ r) (r1 : r < gm_R G) (d0 : 0 ≤ d) (d1 : d ≤ gm_s G r) (i0 : 0 ≤ i) (i1 : i ≤ z) (k0 : 0 ≤ k) (k1 : k ≤ z) : k_Model_isItemAt r d i k m ∧ (p_Model_isItemAt r d i k m ↔ gt_S G z t (fun _ => True) True (gm_o G r) i ∧ gt_row G z t (gt_M G z t) r d i k) := by
  have hG0 := hG
  obtain ⟨hN0, hN, hR0, hR, hr, _⟩ := hG
  obtain ⟨o0, o1, s0, s4, _⟩ := hr r r0 r1
  have e79 := (hD.2.2 r r0 r1).1
  unfold k_Model_isItemAt p_Model_isItemAt
  rw [e79]
  have c99 := (ch.2.2.2 (gm_o G r) i o0 o1 i0 (by omega)).1
  have c98 := ch.2.2.1 r d i k r0 r1 d0 d1 i0 i1 k0 k1
  refine ⟨fun _ => ⟨by omega, by omega, by omega, by omega, by omega, by omega, fun _ => ⟨⟨by omega, by omega, by omega, by omega, by omega, by omega⟩, by omega, by omega⟩⟩, ?_⟩
  refine ⟨fun w => ⟨c99.mp w.2.1, c98.mp w.2.2⟩, fun w => ⟨?_, c99.mpr w.1, c98.mpr w.2⟩⟩
  exact (gt_row_M hG0 i1 w.2).1
theorem gl_gs {f : Int → Int} {v : Int} (v0 : 0 ≤ v) : gsum f (v + 1).toNat = gsum f v.toNat + f v := by
  have e : (v + 1).toNat = v.toNat + 1 := by omega
  have e2 : ((v.toNat : Nat) : Int) = v := by omega
  rw [e]
  show gsum f v.toNat + f ((v.toNat : Nat) : Int) = _
  rw [e2]
theorem gl_gs_2 {F : Int → Int → Int} : ∀ a : Nat, gsum (fun x => F (x % 20) (x / 20)) (a * 20) = gsum (fun i => gsum (fun r => F r i) 20) a
  | 0 => rfl
  | a + 1 => by
    have e : (a + 1) * 20 = a * 20 + 20 := by omega
    rw [e, gsum_app, gl_gs_2 a]
    show _ = gsum (fun i => gsum (fun r => F r i) 20) a + gsum (fun r => F r a) 20
    refine congrArg _ (gsum_cg 20 (fun i i0 i1 => ?_))
    have i20 : i < 20 := i1
    have e1 : (((a * 20 : Nat) : Int) + i) % 20 = i := by omega
    have e2 : (((a * 20 : Nat) : Int) + i) / 20 = a := by omega
    (try dsimp only)
    rw [e1, e2]
noncomputable def gl_X (G : gm_G) (z : Int) (t : Int → Int) (k r d i : Int) : Int := gt_ib (gt_S G z t (fun _ => True) True (gm_o G r) i ∧ gt_row G z t (gt_M G z t) r d i k)
noncomputable def gl_Y (G : gm_G) (z : Int) (t : Int → Int) (k r d : Int) : Int := gsum (gl_X G z t k r d) (k + 1).toNat
noncomputable def gl_Z (G : gm_G) (z : Int) (t : Int → Int) (k r : Int) : Int := gsum (gl_Y G z t k r) (gm_s G r + 1).toNat
theorem gl_isum {G : gm_G} (hG : gm_ok G) {z : Int} {t : Int → Int} {k : Int} (z0 : 0 ≤ z) (z8 : z ≤ 8) (k0 : 0 ≤ k) (k1 : k ≤ z) : gsum (gl_Z G z t k) (gm_R G).toNat = gt_isum G z t (fun r i => 0 ≤ r ∧ r < gm_R G ∧ gt_S G z t (fun _ => True) True (gm_o G r) i) k := by
  have hR := hG.2.2.2.1
  have hR0 := hG.2.2.1
  have e1 : gt_isum G z t (fun r i => 0 ≤ r ∧ r < gm_R G ∧ gt_S G z t (fun _ => True) True (gm_o G r) i) k = gsum (fun r => gsum (fun i => gt_if (0 ≤ r ∧ r < gm_R G ∧ gt_S G z t (fun _ => True) True (gm_o G r) i) (gt_ic G z t r i k (gm_s G r + 1).toNat)) 9) 20 := by
    unfold gt_isum
    rw [← gsum_com (F := fun i r => gt_if (0 ≤ r ∧ r < gm_R G ∧ gt_S G z t (fun _ => True) True (gm_o G r) i) (gt_ic G z t r i k (gm_s G r + 1).toNat)) 9]
    exact gl_gs_2 (F := fun r i => gt_if (0 ≤ r ∧ r < gm_R G ∧ gt_S G z t (fun _ => True) True (gm_o G r) i) (gt_ic G z t r i k (gm_s G r + 1).toNat)) 9
  rw [e1]
  have e20 : (20 : Nat) = (gm_R G).toNat + (20 - (gm_R G).toNat) := by omega
  rw [e20, gsum_ext (n := (gm_R G).toNat) (20 - (gm_R G).toNat) (fun r ra rb => gsum_z 9 (fun i _ _ => gt_if_f (fun w => by omega)))]
  refine gsum_cg _ (fun r r0 r1 => ?_)
  have rR : r < gm_R G := by omega
  show gsum (gl_Y G z t k r) (gm_s G r + 1).toNat = _
  have e2 : gsum (fun i => gt_if (0 ≤ r ∧ r < gm_R G ∧ gt_S G z t (fun _ => True) True (gm_o G r) i) (gt_ic G z t r i k (gm_s G r + 1).toNat)) 9 = gsum (fun i => gsum (fun d => gl_X G z t k r d i) (gm_s G r + 1).toNat) 9 := by
    refine gsum_cg 9 (fun i _ _ => ?_)
    (try dsimp only)
    by_cases u : gt_S G z t (fun _ => True) True (gm_o G r) i
    · rw [gt_if_t ⟨r0, rR, u⟩]
      exact gsum_cg _ (fun d _ _ => gt_ib_cg ⟨fun w => ⟨u, w⟩, fun w => w.2⟩)
    · rw [gt_if_f (fun w => u w.2.2), gsum_z]
      exact fun d _ _ => gt_ib_f (fun w => u w.1)
  rw [e2, gsum_com]
  refine gsum_cg _ (fun d _ _ => ?_)
  show gsum (gl_X G z t k r d) (k + 1).toNat = gsum (fun i => gl_X G z t k r d i) 9
  have e9 : (9 : Nat) = (k + 1).toNat + (9 - (k + 1).toNat) := by omega
  rw [e9]
  refine (gsum_ext (f := fun i => gl_X G z t k r d i) (n := (k + 1).toNat) (9 - (k + 1).toNat) (fun i ia ib => gt_ib_f (fun w => ?_))).symm
  have sr := gt_S_rng hG z0 w.1
  have := (gt_row_M hG sr.2.2.2 w.2).1
  omega
theorem gl_mitems {m : gh_M} {G : gm_G} {z : Int} {t : Int → Int} {U : Int → Prop} {s : Prop} {Q : Int → gh_M → Prop} (hG : gm_ok G) (hD : gm_D m G) (z8 : z ≤ 8) (ch : gd_ch G z t U s m) {k : Int} (k0 : 0 ≤ k) (k1 : k ≤ z) (H : Q (gt_isum G z t (fun r i => 0 ≤ r ∧ r < gm_R G ∧ gt_S G z t (fun _ => True) True (gm_o G r) i) k) m) : gh_L2 (fun K40 v2 v3 => f_Model_items_40 k Q m K40 v2 v3) 0 0 := by
  have hR := hG.2.2.2.1
  have hR0 := hG.2.2.1
  refine ⟨fun v r => 0 ≤ r ∧ r ≤ gm_R G ∧ v = gsum (gl_Z G z t k) r.toNat ∧ 0 ≤ v ∧ v ≤ 45 * r, fun v r => (30 - r).toNat, ⟨Int.le_refl _, hR0, rfl, Int.le_refl _, Int.le_refl _⟩, ?_⟩
  rintro v r ⟨r0, r1, hv, v0, v1⟩
  unfold f_Model_items_40
  rw [hD.2.1]
  refine ⟨fun lt => ?_, fun ge => ?_⟩
  · obtain ⟨o0, o1, s0, s4, _⟩ := hG.2.2.2.2.1 r r0 lt
    refine ⟨fun w d => 0 ≤ d ∧ d ≤ gm_s G r + 1 ∧ w = v + gsum (gl_Y G z t k r) d.toNat ∧ v ≤ w ∧ w ≤ v + 9 * d, fun w d => (30 - d).toNat, ⟨Int.le_refl _, by omega, (Int.add_zero _).symm, Int.le_refl _, by omega⟩, ?_⟩
    rintro w d ⟨d0, d1, hw, w0, w1⟩
    unfold f_Model_items_51
    rw [(hD.2.2 r r0 lt).2.1]
    refine ⟨by omega, by omega, fun dl => ?_, fun dg => ?_⟩
    · refine ⟨fun y i => 0 ≤ i ∧ i ≤ k + 1 ∧ y = w + gsum (gl_X G z t k r d) i.toNat ∧ w ≤ y ∧ y ≤ w + i, fun y i => (30 - i).toNat, ⟨Int.le_refl _, by omega, (Int.add_zero _).symm, Int.le_refl _, by omega⟩, ?_⟩
      rintro y i ⟨i0, i1, hy, y0, y1⟩
      unfold f_Model_items_65
      refine ⟨fun il => ?_, fun ig => ?_⟩
      · have it := gl_isItemAt hG hD z8 ch r0 lt d0 dl i0 (by omega) k0 k1
        have ex : (if p_Model_isItemAt r d i k m then (1 : Int) else 0) = gl_X G z t k r d i := by
          unfold gl_X
          by_cases u : p_Model_isItemAt r d i k m
          · rw [if_pos u, gt_ib_t (it.2.mp u)]
          · rw [if_neg u, gt_ib_f (fun q => u (it.2.mpr q))]
        have xb : 0 ≤ gl_X G z t k r d i ∧ gl_X G z t k r d i ≤ 1 := by
          unfold gl_X
          rcases gt_ib_01 (P := gt_S G z t (fun _ => True) True (gm_o G r) i ∧ gt_row G z t (gt_M G z t) r d i k) with q | q
          · omega
          · omega
        rw [ex]
        refine ⟨it.1, by omega, fun v2' hv2' => ⟨by omega, ⟨by omega, by omega, ?_, by omega, by omega⟩, by (try dsimp only); omega⟩⟩
        rw [gl_gs i0]
        omega
      · have ei : i = k + 1 := by omega
        rw [ei] at hy y1
        refine ⟨by omega, ⟨by omega, by omega, ?_, by omega, by omega⟩, by (try dsimp only); omega⟩
        rw [gl_gs d0, hy, hw]
        show v + gsum (gl_Y G z t k r) d.toNat + gsum (gl_X G z t k r d) (k + 1).toNat = v + (gsum (gl_Y G z t k r) d.toNat + gsum (gl_X G z t k r d) (k + 1).toNat)
        omega
    · have ed : d = gm_s G r + 1 := by omega
      rw [ed] at hw w1
      refine ⟨by omega, ⟨by omega, by omega, ?_, by omega, by omega⟩, by (try dsimp only); omega⟩
      rw [gl_gs r0, hw, hv]
      rfl
  · have er : r = gm_R G := by omega
    rw [hv, er, gl_isum hG (by omega) z8 k0 k1]
    exact H
theorem gl_nl {x y c : Int} (hx : gbs 27 x) (hy : gbs 27 y) : gb (gh_ior_f x y) c ↔ gb x c ∨ gb y c := gb_ior (by decide) hx hy
theorem gl_mnext {m : gh_M} {G : gm_G} {z : Int} {t : Int → Int} {U : Int → Prop} {s : Prop} {Q : Int → gh_M → Prop} (hG : gm_ok G) (hD : gm_D m G) (z8 : z ≤ 8) (hU : ∀ r, 0 ≤ r → r < gm_R G → (m 83 r ≠ 0 ↔ U r)) (ch : gd_ch G z t U s m) {k : Int} (k0 : 0 ≤ k) (k1 : k ≤ z) (H : ∀ v, gbs 27 v → (∀ c, 0 ≤ c → (gb v c ↔ gt_nx G z t (fun r i => 0 ≤ r ∧ r < gm_R G ∧ U r ∧ gt_S G z t U s (gm_o G r) i) k c ∨ (c = 26 ∧ gt_M G z t 0 0 k))) → Q v m) : gh_L2 (fun K55 v2 v3 => f_Model_next2_55 k Q m K55 v2 v3) (if m 97 k = 0 then 0 else 67108864) 0 := by
  have hR := hG.2.2.2.1
  have hR0 := hG.2.2.1
  have hN0 := hG.1
  have hN := hG.2.1
  have c97 := ch.2.1 0 0 k (Int.le_refl _) (by omega) (Int.le_refl _) (by decide) k0 (by omega)
  have ek : (81 * 0 + 9 * 0 + k : Int) = k := by omega
  rw [ek] at c97
  refine ⟨fun v x => 0 ≤ x ∧ x ≤ 4 * gm_R G ∧ gbs 27 v ∧ ∀ c, 0 ≤ c → (gb v c ↔ (c = 26 ∧ gt_M G z t 0 0 k) ∨ ∃ r d i, 4 * r + d < x ∧ 0 ≤ r ∧ r < gm_R G ∧ U r ∧ gt_S G z t U s (gm_o G r) i ∧ 0 ≤ d ∧ d < gm_s G r ∧ gm_n G r d = -1 ∧ gb (gm_p G r d) c ∧ gt_row G z t (gt_M G z t) r d i k), fun v x => (100 - x).toNat, ⟨Int.le_refl _, by omega, ?_, fun c c0 => ?_⟩, ?_⟩
  · by_cases u : m 97 k = 0
    · rw [if_pos u]
      exact gbs_0 _
    · rw [if_neg u]
      exact gbs_26
  · by_cases u : m 97 k = 0
    · rw [if_pos u]
      refine ⟨fun w => absurd w (gb_0 c), fun w => ?_⟩
      rcases w with w | ⟨r, d, i, w1, w2, w3, w4, w5, w6, _⟩
      · exact absurd u (c97.mpr w.2)
      · omega
    · rw [if_neg u, gb_26 c0]
      refine ⟨fun w => Or.inl ⟨w, c97.mp u⟩, fun w => ?_⟩
      rcases w with w | ⟨r, d, i, w1, w2, w3, w4, w5, w6, _⟩
      · exact w.1
      · omega
  rintro v x ⟨x0, x1, gv, hv⟩
  unfold f_Model_next2_55
  rw [hD.2.1]
  refine ⟨by omega, fun lt => ⟨x0, fun v4 hv4 => ?_⟩, fun ge => ?_⟩
  · obtain ⟨r, hr⟩ : ∃ r, r = x / 4 := ⟨_, rfl⟩
    obtain ⟨d, hd⟩ : ∃ d, d = x % 4 := ⟨_, rfl⟩
    rw [← hr] at hv4
    rw [hv4]
    clear hv4 v4
    have r0 : 0 ≤ r := by omega
    have r1 : r < gm_R G := by omega
    have d0 : 0 ≤ d ∧ d < 4 := by omega
    have xe : x = 4 * r + d := by omega
    obtain ⟨o0, o1, s0, s4, pp⟩ := hG.2.2.2.2.1 r r0 r1
    obtain ⟨e79, e80, e81⟩ := hD.2.2 r r0 r1
    refine ⟨fun w i => 0 ≤ i ∧ i ≤ k + 1 ∧ gbs 27 w ∧ ∀ c, 0 ≤ c → (gb w c ↔ gb v c ∨ ∃ i', 0 ≤ i' ∧ i' < i ∧ U r ∧ gt_S G z t U s (gm_o G r) i' ∧ d < gm_s G r ∧ gm_n G r d = -1 ∧ gb (gm_p G r d) c ∧ gt_row G z t (gt_M G z t) r d i' k), fun w i => (30 - i).toNat, ⟨Int.le_refl _, by omega, gv, fun c c0 => ⟨fun w => Or.inl w, fun w => w.elim id (fun ⟨i', a, b, _⟩ => by omega)⟩⟩, ?_⟩
    rintro w i ⟨i0, i1, gw, hw⟩
    unfold f_Model_next2_73
    rw [← hd, e80, e79]
    refine ⟨fun w' => gbs 27 w' ∧ ∀ c, 0 ≤ c → (gb w' c ↔ gb v c ∨ ∃ i', 0 ≤ i' ∧ i' ≤ k ∧ U r ∧ gt_S G z t U s (gm_o G r) i' ∧ d < gm_s G r ∧ gm_n G r d = -1 ∧ gb (gm_p G r d) c ∧ gt_row G z t (gt_M G z t) r d i' k), fun w' ⟨gw', hw'⟩ => ⟨by omega, ⟨by omega, by omega, gw', fun c c0 => ?_⟩, by (try dsimp only); omega⟩, fun _ => ⟨by omega, by omega, by omega, fun _ => ⟨by omega, by omega, fun _ => by omega⟩⟩, fun ex => ⟨gw, fun c c0 => ?_⟩, fun ex => ?_⟩
    · rw [hw' c c0, hv c c0, or_assoc]
      refine or_congr Iff.rfl ⟨fun y => ?_, fun y => ?_⟩
      · rcases y with ⟨r', d', i', y1, y2⟩ | ⟨i', y0, y1, y2, y3, y4, y5, y6, y7⟩
        · exact ⟨r', d', i', by omega, y2⟩
        · exact ⟨r, d, i', by omega, r0, r1, y2, y3, d0.1, y4, y5, y6, y7⟩
      · obtain ⟨r', d', i', y1, y2, y3, y4, y5, y6, y7, y8, y9, y10⟩ := y
        have s4' := (hG.2.2.2.2.1 r' y2 y3).2.2.2.1
        by_cases u : r' = r ∧ d' = d
        · rw [u.1] at y4 y5 y7 y8 y9 y10
          rw [u.2] at y7 y8 y9 y10
          have sr := gt_S_rng hG (by omega) y5
          have rm := (gt_row_M hG sr.2.2.2 y10).1
          exact Or.inr ⟨i', sr.2.2.1, rm, y4, y5, y7, y8, y9, y10⟩
        · exact Or.inl ⟨r', d', i', by omega, y2, y3, y4, y5, y6, y7, y8, y9, y10⟩
    · rw [hw c c0]
      refine or_congr Iff.rfl ⟨fun ⟨i', y0, y1, y2⟩ => ⟨i', y0, by omega, y2⟩, fun ⟨i', y0, y1, y2, y3, y4, y5, y6, y7⟩ => ⟨i', y0, ?_, y2, y3, y4, y5, y6, y7⟩⟩
      rcases ex with z1 | z1 | z1 | z1
      · omega
      · omega
      · rw [xe, e81 d d0.1 y4] at z1
        rcases gm_p_n hG r0 r1 d0.1 y4 with q | q
        · omega
        · omega
      · exact absurd z1 ((hU r r0 r1).mpr y2)
    · have ik : i ≤ k := by
        by_cases u : i ≤ k
        · exact u
        · exact absurd (Or.inl u) ex
      have ds : d < gm_s G r := by
        by_cases u : d < gm_s G r
        · exact u
        · exact absurd (Or.inr (Or.inl u)) ex
      have pos : ¬ m 81 x ≤ 0 := fun u => ex (Or.inr (Or.inr (Or.inl u)))
      have use : m 83 r ≠ 0 := fun u => ex (Or.inr (Or.inr (Or.inr u)))
      have e81' : m 81 x = gm_p G r d := by
        rw [xe]
        exact e81 d d0.1 ds
      have pn : gm_n G r d = -1 ∧ gm_p G r d < 67108864 ∧ 0 < gm_p G r d := by
        rcases gm_p_n hG r0 r1 d0.1 ds with q | q
        · omega
        · omega
      have c100 := (ch.2.2.2 (gm_o G r) i o0 o1 i0 (by omega)).2
      have c98 := ch.2.2.1 r d i k r0 r1 d0.1 (by omega) i0 (by omega) k0 k1
      have Ur := (hU r r0 r1).mp use
      refine ⟨by omega, by omega, by omega, by omega, by omega, by omega, fun _ => ⟨x0, ⟨by omega, by omega, by omega, by omega, by omega, by omega⟩, by omega, by omega, fun _ => by omega⟩, fun v2' hv2' => ?_⟩
      obtain ⟨add, hadd⟩ : ∃ add, add = (if m 100 (9 * gm_o G r + i) = 0 then 0 else if m 98 (405 * r + 81 * d + 9 * i + k) = 0 then 0 else m 81 x) := ⟨_, rfl⟩
      rw [← hadd] at hv2'
      have ga : gbs 27 add ∧ ∀ c, 0 ≤ c → (gb add c ↔ gt_S G z t U s (gm_o G r) i ∧ gt_row G z t (gt_M G z t) r d i k ∧ gb (gm_p G r d) c) := by
        rw [hadd]
        by_cases a : m 100 (9 * gm_o G r + i) = 0
        · rw [if_pos a]
          exact ⟨gbs_0 _, fun c _ => ⟨fun y => absurd y (gb_0 c), fun y => absurd a (c100.mpr y.1)⟩⟩
        · rw [if_neg a]
          by_cases b : m 98 (405 * r + 81 * d + 9 * i + k) = 0
          · rw [if_pos b]
            exact ⟨gbs_0 _, fun c _ => ⟨fun y => absurd y (gb_0 c), fun y => absurd b (c98.mpr y.2.1)⟩⟩
          · rw [if_neg b, e81']
            exact ⟨⟨by omega, by omega⟩, fun c _ => ⟨fun y => ⟨c100.mp a, c98.mp b, y⟩, fun y => y.2.2⟩⟩
      refine ⟨by omega, ⟨by omega, by omega, by rw [hv2']; exact gbs_or (by decide) gw ga.1, fun c c0 => ?_⟩, by (try dsimp only); omega⟩
      rw [hv2', gl_nl gw ga.1, hw c c0, ga.2 c c0, or_assoc]
      refine or_congr Iff.rfl ⟨fun y => ?_, fun ⟨i', y0, y1, y2, y3, y4, y5, y6, y7⟩ => ?_⟩
      · rcases y with ⟨i', y0, y1, y2⟩ | y
        · exact ⟨i', y0, by omega, y2⟩
        · exact ⟨i, i0, by omega, Ur, y.1, ds, pn.1, y.2.2, y.2.1⟩
      · by_cases u : i' = i
        · rw [u] at y3 y7
          exact Or.inr ⟨y3, y7, y6⟩
        · exact Or.inl ⟨i', y0, by omega, y2, y3, y4, y5, y6, y7⟩
  · have ex : x = 4 * gm_R G := by omega
    refine H v gv (fun c c0 => ?_)
    rw [hv c c0, or_comm]
    refine or_congr ⟨fun ⟨r, d, i, y1, y2, y3, y4, y5, y6, y7, y8, y9, y10⟩ => ⟨r, i, d, ⟨y2, y3, y4, y5⟩, y6, y7, y8, y9, y10⟩, fun ⟨r, i, d, ⟨y2, y3, y4, y5⟩, y6, y7, y8, y9, y10⟩ => ⟨r, d, i, ?_, y2, y3, y4, y5, y6, y7, y8, y9, y10⟩⟩ Iff.rfl
    have := (hG.2.2.2.2.1 r y2 y3).2.2.2.1
    omega
theorem gl_hasItem {m : gh_M} {G : gm_G} {Q : Int → Prop} (hG : gm_ok G) (hC : gm_C m G) (ht : gt_t m) (ch : gt_ch G m) {r d i k : Int} (r0 : 0 ≤ r) (r1 : r < gm_R G) (d0 : 0 ≤ d) (d1 : d ≤ gm_s G r) (i0 : 0 ≤ i) (i1 : i ≤ m 26 3) (k0 : 0 ≤ k) (k1 : k ≤ m 26 3) (H1 : gt_S G (m 26 3) (m 27) (fun _ => True) True (gm_o G r) i → gt_row G (m 26 3) (m 27) (gt_M G (m 26 3) (m 27)) r d i k → Q 1) (H0 : ¬ (gt_S G (m 26 3) (m 27) (fun _ => True) True (gm_o G r) i ∧ gt_row G (m 26 3) (m 27) (gt_M G (m 26 3) (m 27)) r d i k) → Q 0) : w_Chart_hasItem r d i k m Q := by
  have t8 := ht.2.1
  have hR := hG.2.2.2.1
  have hN := hG.2.1
  obtain ⟨o0, o1, s0, s4, _⟩ := hG.2.2.2.2.1 r r0 r1
  have c32 := ch.2.1 i i0 (by omega)
  have b := gb_test0 (x := m 32 i) (i := gm_o G r) (gbs_le c32.1 (by decide)) o0 (by omega)
  have e16 := (hC.2.2 r r0 r1).1
  unfold w_Chart_hasItem
  rw [e16]
  refine ⟨i0, by omega, r0, by omega, ¬ (gt_S G (m 26 3) (m 27) (fun _ => True) True (gm_o G r) i ∧ gt_row G (m 26 3) (m 27) (gt_M G (m 26 3) (m 27)) r d i k), H0, fun z w => (b.mp z) ((c32.2 _ o0).mpr w.1), fun z => ?_⟩
  have hS : gt_S G (m 26 3) (m 27) (fun _ => True) True (gm_o G r) i := by
    refine (c32.2 _ o0).mp ?_
    by_cases u : gb (m 32 i) (gm_o G r)
    · exact u
    · exact absurd (b.mpr u) z
  refine gt_endsOfRow hG hC ht ⟨ch.1.1, fun n i j w => (ch.1.2 n i j).mp w⟩ r0 r1 d0 d1 i0 i1 (fun V hV hq => ?_)
  have bq := gb_test0 (x := V) (i := k) (gbs_le hV (by decide)) k0 (by omega)
  have hk := (hq k k0).trans (gt_row_tab ch.1)
  refine ⟨fun w y => bq.mp w (hk.mpr y.2), fun w => H1 hS (hk.mp ?_)⟩
  by_cases u : gb V k
  · exact u
  · exact absurd (bq.mpr u) w
