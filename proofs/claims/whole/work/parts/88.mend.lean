/-! WANTED LETTERS: the model's answer -/
def gv_B (G : gm_G) (z : Int) (t : Int → Int) (M : Int → Int) (k : Int) (W : Int → Int) (D : Int → Int → Int → Prop) (w : Int) : Prop := ∃ r d i, 0 ≤ r ∧ r < gm_R G ∧ 0 ≤ d ∧ d ≤ gm_s G r ∧ 0 ≤ i ∧ i ≤ k ∧ D r d i ∧ gt_row G z t (gt_M G z t) r d i k ∧ w = min (gm_lk 1000000000 G M r d + W (9 * gm_o G r + i)) 1000000000
theorem gv_B_w {G : gm_G} {z : Int} {t : Int → Int} {M : Int → Int} {k : Int} {W : Int → Int} {D E : Int → Int → Int → Prop} {v K : Int} (h : gw_mn (gv_B G z t M k W D) v K) (he : ∀ r d i, 0 ≤ r → r < gm_R G → 0 ≤ d → d ≤ gm_s G r → 0 ≤ i → i ≤ k → (D r d i ↔ E r d i)) : gw_mn (gv_B G z t M k W E) v K := by
  refine gw_mn_cg (fun w => ?_) h
  constructor
  · rintro ⟨r, d, i, a1, a2, a3, a4, a5, a6, a7, a8⟩
    exact ⟨r, d, i, a1, a2, a3, a4, a5, a6, (he r d i a1 a2 a3 a4 a5 a6).mp a7, a8⟩
  · rintro ⟨r, d, i, a1, a2, a3, a4, a5, a6, a7, a8⟩
    exact ⟨r, d, i, a1, a2, a3, a4, a5, a6, (he r d i a1 a2 a3 a4 a5 a6).mpr a7, a8⟩
theorem gv_end {m : gh_M} {G : gm_G} {z : Int} {t : Int → Int} {Q : Int → gh_M → Prop} (hG : gm_ok G) (hD : gm_D m G) (z8 : z ≤ 8) (hb : gd_bg G z t m) (hL : gm_Kr 1000000000 G (m 82)) (hW : gv_r (m 101)) {k : Int} (k0 : 0 ≤ k) (k1 : k ≤ z) (h : Q (if gmn (gv_B G z t (m 82) k (m 101) (fun _ _ _ => True)) 1000000000 = 1000000000 then -1 else gmn (gv_B G z t (m 82) k (m 101) (fun _ _ _ => True)) 1000000000) m) : gh_L2 (fun K47 v2 v3 => f_Model_end_47 k Q m K47 v2 v3) 1000000000 0 := by
  have hN := hG.2.1
  have hR0 := hG.2.2.1
  have hR := hG.2.2.2.1
  refine ⟨fun v r => 0 ≤ r ∧ r ≤ gm_R G ∧ gw_mn (gv_B G z t (m 82) k (m 101) (fun r' _ _ => r' < r)) v 1000000000, fun _ r => (30 - r).toNat, ⟨by omega, by omega, gw_mn_0 (by decide) (fun w ⟨r', d', i', a1, _, _, _, _, _, a7, _⟩ => by omega)⟩, ?_⟩
  rintro v r ⟨r0, r1, hm⟩
  unfold f_Model_end_47
  rw [hD.2.1]
  refine ⟨fun c => ?_, fun c => ?_⟩
  · obtain ⟨p1, p2, p3, p4, p5⟩ := hG.2.2.2.2.1 r r0 c
    obtain ⟨d1, d2, d3⟩ := hD.2.2 r r0 c
    refine ⟨fun v d => 0 ≤ d ∧ d ≤ gm_s G r + 1 ∧ gw_mn (gv_B G z t (m 82) k (m 101) (fun r' d' _ => r' < r ∨ (r' = r ∧ d' < d))) v 1000000000, fun _ d => (10 - d).toNat, ⟨by omega, by omega, gv_B_w hm (fun r' d' i' _ _ _ _ _ _ => by omega)⟩, ?_⟩
    rintro v2 d ⟨d0, d4, hm2⟩
    unfold f_Model_end_58
    rw [d2]
    refine ⟨r0, by omega, fun c2 => ?_, fun c2 => ⟨by omega, ⟨by omega, by omega, gv_B_w hm2 (fun r' d' i' _ _ _ b _ _ => ?_)⟩, by (try dsimp only); omega⟩⟩
    · refine ⟨fun v i => 0 ≤ i ∧ i ≤ k + 1 ∧ gw_mn (gv_B G z t (m 82) k (m 101) (fun r' d' i' => r' < r ∨ (r' = r ∧ (d' < d ∨ (d' = d ∧ i' < i))))) v 1000000000, fun _ i => (20 - i).toNat, ⟨by omega, by omega, gv_B_w hm2 (fun r' d' i' _ _ _ _ _ _ => by omega)⟩, ?_⟩
      rintro v3 i ⟨i0, i1, hm3⟩
      unfold f_Model_end_72
      rw [d1]
      refine ⟨fun c3 => ⟨by omega, by omega, by omega, ?_⟩, fun c3 => ⟨by omega, ⟨by omega, by omega, gv_B_w hm3 (fun r' d' i' _ _ _ _ _ _ => by omega)⟩, by (try dsimp only); omega⟩⟩
      have bg := hb r d i k r0 c d0 c2 i0 (by omega) k0 k1
      have step : ∀ y0, gw_mn (gv_B G z t (m 82) k (m 101) (fun r' d' i' => r' < r ∨ (r' = r ∧ (d' < d ∨ (d' = d ∧ i' < i + 1))))) (min v3 y0) 1000000000 → ∀ v2' : Int, v2' = (if y0 < v3 then y0 else v3) → gh_i (i + 1) ∧ (0 ≤ i + 1 ∧ i + 1 ≤ k + 1 ∧ gw_mn (gv_B G z t (m 82) k (m 101) (fun r' d' i' => r' < r ∨ (r' = r ∧ (d' < d ∨ (d' = d ∧ i' < i + 1))))) v2' 1000000000) ∧ (20 - (i + 1)).toNat < (20 - i).toNat := by
        intro y0 hy
        rintro _ rfl
        have e : (if y0 < v3 then y0 else v3) = min v3 y0 := by split <;> omega
        rw [e]
        exact ⟨by omega, ⟨by omega, by omega, hy⟩, by omega⟩
      refine ⟨fun y0 => gw_mn (gv_B G z t (m 82) k (m 101) (fun r' d' i' => r' < r ∨ (r' = r ∧ (d' < d ∨ (d' = d ∧ i' < i + 1))))) (min v3 y0) 1000000000, step, fun c4 => ?_, fun c4 => ?_⟩
      · have e : min v3 1000000000 = v3 := by
          have := hm3.2.1
          omega
        dsimp only
        rw [e]
        refine gw_mn_cg (fun w => ?_) hm3
        constructor
        · rintro ⟨r', d', i', a1, a2, a3, a4, a5, a6, a7, a8⟩
          exact ⟨r', d', i', a1, a2, a3, a4, a5, a6, by omega, a8⟩
        · rintro ⟨r', d', i', a1, a2, a3, a4, a5, a6, a7, a8, a9⟩
          by_cases q : r' = r ∧ d' = d ∧ i' = i
          · obtain ⟨q1, q2, q3⟩ := q
            rw [q1, q2, q3] at a8
            exact absurd c4 (bg.mpr a8)
          · exact ⟨r', d', i', a1, a2, a3, a4, a5, a6, by omega, a8, a9⟩
      · have row := bg.mp c4
        refine gm_leastOf hG hD hL r0 c d0 (by omega) ?_
        have lk := gm_lk_nn hG (by decide) hL r0 c (a := d) d0
        have wb := hW (9 * gm_o G r + i) (by omega) (by omega)
        have its : x_Model_sumOf (gm_lk 1000000000 G (m 82) r d) (m 101 (9 * gm_o G r + i)) = min (gm_lk 1000000000 G (m 82) r d + m 101 (9 * gm_o G r + i)) 1000000000 := by
          unfold x_Model_sumOf
          split <;> omega
        refine ⟨r0, by omega, by omega, by omega, by omega, by omega, ⟨by omega, fun _ => by omega⟩, ?_⟩
        dsimp only
        rw [its]
        refine gw_mn_add (by omega) (fun w => ?_) hm3
        constructor
        · rintro ⟨r', d', i', a1, a2, a3, a4, a5, a6, a7, a8, a9⟩
          by_cases q : r' = r ∧ d' = d ∧ i' = i
          · obtain ⟨q1, q2, q3⟩ := q
            rw [q1, q2, q3] at a9
            exact Or.inr a9
          · exact Or.inl ⟨r', d', i', a1, a2, a3, a4, a5, a6, by omega, a8, a9⟩
        · rintro (⟨r', d', i', a1, a2, a3, a4, a5, a6, a7, a8⟩ | y)
          · exact ⟨r', d', i', a1, a2, a3, a4, a5, a6, by omega, a8⟩
          · exact ⟨r, d, i, r0, c, d0, c2, i0, by omega, by omega, row, y⟩
    · constructor
      · intro y
        omega
      · intro y
        by_cases q : r' = r
        · rw [q] at b
          omega
        · omega
  · have e : r = gm_R G := by omega
    have hm2 : gw_mn (gv_B G z t (m 82) k (m 101) (fun _ _ _ => True)) v 1000000000 := gv_B_w hm (fun r' d' i' _ _ _ _ _ _ => ⟨fun _ => trivial, fun _ => by omega⟩)
    rw [gw_mn_eq hm2]
    exact h
