/-! WANTED LETTERS: the model's way -/
def gv_cl (G : gm_G) (z : Int) (t : Int → Int) (M : Int → Int) (k : Int) (D : Int → Int → Int → Prop) (W : Int → Int) : Prop := ∀ r d i j, 0 ≤ r → r < gm_R G → 0 ≤ d → d < gm_s G r → D (4 * r + d) i j → gm_n G r d ≠ -1 → 0 ≤ i → i ≤ j → j ≤ k → gt_row G z t (gt_M G z t) r d i j → W (9 * gm_n G r d + j) ≤ min (gm_lk 1000000000 G M r (d + 1) + W (9 * gm_o G r + i)) 1000000000
def gv_r (W : Int → Int) : Prop := ∀ x, 0 ≤ x → x < 72 → 0 ≤ W x ∧ W x ≤ 1000000000
def gv_so (G : gm_G) (z : Int) (t : Int → Int) (M : Int → Int) (k : Int) (W : Int → Int) : Prop := ∀ Z : Int → Int, gv_r Z → Z 0 ≤ 0 → gv_cl G z t M k (fun _ _ _ => True) Z → ∀ x, 0 ≤ x → x < 72 → Z x ≤ W x
def gv_st (G : gm_G) (z : Int) (t : Int → Int) (M : Int → Int) (k : Int) (m m0 : gh_M) (D : Int → Int → Int → Prop) (v : Int) (m1 : gh_M) : Prop := gx [101] m m1 ∧ gv_r (m1 101) ∧ m1 101 0 = 0 ∧ gv_so G z t M k (m1 101) ∧ (v = 0 ∨ v = 1) ∧ (v = 0 → m1 101 = m0 101 ∧ gv_cl G z t M k D (m0 101)) ∧ (v = 1 → gm_sum (m1 101) 72 < gm_sum (m0 101) 72)
theorem gv_st_w {G : gm_G} {z : Int} {t : Int → Int} {M : Int → Int} {k : Int} {m m0 m1 : gh_M} {D D2 : Int → Int → Int → Prop} {v : Int} (h : gv_st G z t M k m m0 D v m1) (hD : ∀ r d i j, 0 ≤ r → r < gm_R G → 0 ≤ d → d < gm_s G r → 0 ≤ i → i ≤ j → j ≤ k → gm_n G r d ≠ -1 → D2 (4 * r + d) i j → D (4 * r + d) i j) : gv_st G z t M k m m0 D2 v m1 := by
  obtain ⟨a1, a2, a3, a4, a5, a6, a7⟩ := h
  exact ⟨a1, a2, a3, a4, a5, fun e => ⟨(a6 e).1, fun r d i j r0 r1 d0 d1 dd n i0 ij jk w => (a6 e).2 r d i j r0 r1 d0 d1 (hD r d i j r0 r1 d0 d1 i0 ij jk n dd) n i0 ij jk w⟩, a7⟩
theorem gv_findWants {m : gh_M} {G : gm_G} {z : Int} {t : Int → Int} {Q : Int → gh_M → Prop} (hG : gm_ok G) (hD : gm_D m G) (z8 : z ≤ 8) (hb : gd_bg G z t m) (hL : gm_Kr 1000000000 G (m 82)) {k : Int} (k0 : 0 ≤ k) (k1 : k ≤ z) (h : ∀ m1, gx [101] m m1 → gv_r (m1 101) → m1 101 0 = 0 → gv_cl G z t (m 82) k (fun _ _ _ => True) (m1 101) → gv_so G z t (m 82) k (m1 101) → Q 0 m1) : w_Model_findWants k m Q := by
  have hN0 := hG.1
  have hN := hG.2.1
  have hR0 := hG.2.2.1
  have hR := hG.2.2.2.1
  refine ⟨fun x m1 => 0 ≤ x ∧ x ≤ 72 ∧ gx [101] m m1 ∧ ∀ y, 0 ≤ y → y < x → m1 101 y = if y = 0 then 0 else 1000000000, fun x _ => (100 - x).toNat, ⟨by omega, by omega, gx_rf, fun y a b => by omega⟩, ?_⟩
  rintro x m1 ⟨x0, x1, hx, hy⟩
  unfold f_Model_findWants_2
  refine ⟨fun c => ⟨by omega, by omega, by omega, ⟨by omega, by omega, gx_u hx (List.mem_singleton.mpr rfl), fun y y0 y1 => ?_⟩, by (try dsimp only); omega⟩, fun c => ?_⟩
  · by_cases e : y = x
    · rw [e, gh_u_s]
    · rw [gh_u_i e]
      exact hy y y0 (by omega)
  have ini : ∀ y, 0 ≤ y → y < 72 → m1 101 y = if y = 0 then 0 else 1000000000 := fun y a b => hy y a (by omega)
  refine ⟨fun v m2 => (v = 0 ∨ v = 1) ∧ gx [101] m m2 ∧ gv_r (m2 101) ∧ m2 101 0 = 0 ∧ gv_so G z t (m 82) k (m2 101) ∧ (v = 0 → gv_cl G z t (m 82) k (fun _ _ _ => True) (m2 101)), fun v m2 => 2 * gm_sum (m2 101) 72 + v.toNat, ⟨Or.inr rfl, hx, fun y a b => ?_, ?_, fun Z z1 z2 _ y a b => ?_, fun e => absurd e (by decide)⟩, ?_⟩
  · rw [ini y a b]
    split <;> decide
  · rw [ini 0 (by decide) (by decide)]
    rfl
  · rw [ini y a b]
    by_cases e : y = 0
    · rw [if_pos e, e]
      exact z2
    · rw [if_neg e]
      exact (z1 y a b).2
  rintro v m2 ⟨v01, hx2, r2, o2, s2, cl2⟩
  unfold f_Model_findWants_33
  refine ⟨fun e => h m2 hx2 r2 o2 (cl2 e) s2, fun e => ?_⟩
  have v1 : v = 1 := v01.resolve_left e
  subst v1
  have keep : ∀ m3, gx [101] m m3 → m3 63 = m 63 ∧ m3 79 = m 79 ∧ m3 80 = m 80 ∧ m3 81 = m 81 ∧ m3 82 = m 82 ∧ m3 98 = m 98 := fun m3 x3 => ⟨x3 63 (by decide), x3 79 (by decide), x3 80 (by decide), x3 81 (by decide), x3 82 (by decide), x3 98 (by decide)⟩
  refine ⟨fun v x m3 => 0 ≤ x ∧ x ≤ 4 * gm_R G ∧ gv_st G z t (m 82) k m m2 (fun x' _ _ => x' < x) v m3, fun _ x _ => (100 - x).toNat, ⟨by omega, by omega, hx2, r2, o2, s2, Or.inl rfl, fun _ => ⟨rfl, fun r d i j _ _ _ _ y => by omega⟩, fun e => absurd e (by decide)⟩, ?_⟩
  rintro v x m3 ⟨x0', x1', st3⟩
  obtain ⟨f63, f79, f80, f81, f82, f98⟩ := keep m3 st3.1
  unfold f_Model_findWants_41
  rw [f63, hD.2.1]
  refine ⟨by omega, fun c3 => ⟨x0', ?_⟩, fun c3 => ⟨⟨st3.2.2.2.2.1, st3.1, st3.2.1, st3.2.2.1, st3.2.2.2.1, fun e0 => ?_⟩, ?_⟩⟩
  · rintro _ rfl
    refine ⟨x0', ?_⟩
    rintro _ rfl
    have r0 : 0 ≤ x / 4 := by omega
    have r1 : x / 4 < gm_R G := by omega
    obtain ⟨g1, g2, g3, g4, g5⟩ := hG.2.2.2.2.1 (x / 4) r0 r1
    obtain ⟨d1, d2, d3⟩ := hD.2.2 (x / 4) r0 r1
    have kk : 4 * (x / 4) + x % 4 = x := by omega
    refine ⟨fun v i m4 => 0 ≤ i ∧ i ≤ k + 1 ∧ gv_st G z t (m 82) k m m2 (fun x' i' _ => x' < x ∨ (x' = x ∧ i' < i)) v m4, fun _ i _ => (20 - i).toNat, ⟨by omega, by omega, gv_st_w st3 (fun r d i j _ _ _ _ _ _ _ _ w => by omega)⟩, ?_⟩
    rintro v4 i m4 ⟨i0, i1, st4⟩
    obtain ⟨q63, q79, q80, q81, q82, q98⟩ := keep m4 st4.1
    unfold f_Model_findWants_64
    rw [q80, d2, q81, q79, d1]
    refine ⟨fun v' m5 => gv_st G z t (m 82) k m m2 (fun x' _ _ => x' < x + 1) v' m5, fun v' m5 j => ⟨by omega, ⟨by omega, by omega, j⟩, by (try dsimp only); omega⟩, fun c4 => ⟨r0, by omega, fun _ => by omega⟩, fun c4 => ?_, fun c4 => gv_st_w st4 (fun r d i' j' r0' r1' d0' d1' w1 w2 w3 nn w => ?_)⟩
    · obtain ⟨c5, c6, c7⟩ := c4
      have pe := d3 (x % 4) (by omega) c6
      rw [kk] at pe
      have w := gm_p_n hG r0 r1 (d := x % 4) (by omega) c6
      have ne : -1 - m 81 x = gm_n G (x / 4) (x % 4) := by omega
      have nn : gm_n G (x / 4) (x % 4) ≠ -1 := by omega
      refine ⟨by omega, ?_⟩
      have hD4 := gm_D_x st4.1 (by decide) hD
      refine gm_leastOf hG hD4 (by rw [q82]; exact hL) r0 r1 (by omega) (by omega) ?_
      rw [q82]
      have lk := gm_lk_nn hG (by decide) hL r0 r1 (a := x % 4 + 1) (by omega)
      have wb := st4.2.1 (9 * gm_o G (x / 4) + i) (by omega) (by omega)
      refine ⟨r0, by omega, by omega, by omega, by omega, by omega, ?_, ?_⟩
      · unfold k_Model_sumOf
        exact ⟨by omega, fun _ => by omega⟩
      rintro _ rfl
      have its : x_Model_sumOf (gm_lk 1000000000 G (m 82) (x / 4) (x % 4 + 1)) (m4 101 (9 * gm_o G (x / 4) + i)) = min (gm_lk 1000000000 G (m 82) (x / 4) (x % 4 + 1) + m4 101 (9 * gm_o G (x / 4) + i)) 1000000000 := by
        unfold x_Model_sumOf
        split <;> omega
      rw [its]
      refine ⟨fun v j m5 => i ≤ j ∧ j ≤ k + 1 ∧ gv_st G z t (m 82) k m m2 (fun x' i' j' => x' < x ∨ (x' = x ∧ (i' < i ∨ (i' = i ∧ j' < j)))) v m5 ∧ (v = 0 → v4 = 0), fun _ j _ => (20 - j).toNat, ⟨by omega, by omega, gv_st_w st4 (fun r d i' j' _ _ _ _ _ _ _ _ w => by omega), id⟩, ?_⟩
      rintro v5 j m5 ⟨j0, j1, st5, v54⟩
      obtain ⟨y63, y79, y80, y81, y82, y98⟩ := keep m5 st5.1
      unfold f_Model_findWants_128
      rw [y81, y98, ne]
      refine ⟨fun c8 => ⟨by omega, by omega, by omega, by omega, by omega, ?_⟩, fun c8 => ⟨by omega, ⟨by omega, by omega, gv_st_w st5 (fun r d i' j' _ _ _ _ _ _ _ _ w => by omega)⟩, by (try dsimp only); omega⟩⟩
      rintro _ rfl
      have bgi := hb (x / 4) (x % 4) i j r0 r1 (by omega) (by omega) i0 (by omega) (by omega) (by omega)
      refine ⟨by omega, by omega, by omega, fun v' m6 => gv_st G z t (m 82) k m m2 (fun x' i' j' => x' < x ∨ (x' = x ∧ (i' < i ∨ (i' = i ∧ j' < j + 1)))) v' m6 ∧ (v' = 0 → v4 = 0), fun v' m6 jj => ⟨by omega, ⟨by omega, by omega, jj.1, jj.2⟩, by (try dsimp only); omega⟩, fun _ => by omega, fun c9 => ⟨by omega, by omega, ?_, fun e => absurd e (by decide)⟩, fun c9 => ⟨?_, v54⟩⟩
      · have row := bgi.mp c9.1
        obtain ⟨a1, a2, a3, a4, a5, a6, a7⟩ := st5
        have wt := a2 (9 * gm_n G (x / 4) (x % 4) + j) (by omega) (by omega)
        have le : ∀ y, gm_upd (m5 101) (9 * gm_n G (x / 4) (x % 4) + j) (min (gm_lk 1000000000 G (m 82) (x / 4) (x % 4 + 1) + m4 101 (9 * gm_o G (x / 4) + i)) 1000000000) y ≤ m5 101 y := fun y => by
          unfold gm_upd
          split
          · next e =>
            rw [e]
            exact Int.le_of_lt c9.2
          · exact Int.le_refl _
        have lt := gm_sum_lt (L := gm_upd (m5 101) (9 * gm_n G (x / 4) (x % 4) + j) (min (gm_lk 1000000000 G (m 82) (x / 4) (x % 4 + 1) + m4 101 (9 * gm_o G (x / 4) + i)) 1000000000)) (Z := m5 101) 72 (fun y _ _ => le y) (9 * gm_n G (x / 4) (x % 4) + j) (by omega) (by omega) (by unfold gm_upd; rw [if_pos rfl]; omega) (by unfold gm_upd; rw [if_pos rfl]; exact c9.2)
        refine ⟨gx_u a1 (List.mem_singleton.mpr rfl), ?_, ?_, ?_, Or.inr rfl, fun e => absurd e (by decide), fun _ => ?_⟩
        · rw [gm_u_rowa]
          intro y y0 y1
          have b := a2 y y0 y1
          unfold gm_upd
          split <;> omega
        · rw [gm_u_rowa]
          have b := le 0
          have b2 : 0 ≤ gm_upd (m5 101) (9 * gm_n G (x / 4) (x % 4) + j) (min (gm_lk 1000000000 G (m 82) (x / 4) (x % 4 + 1) + m4 101 (9 * gm_o G (x / 4) + i)) 1000000000) 0 := by
            unfold gm_upd
            split <;> omega
          omega
        · rw [gm_u_rowa]
          intro Z z1 z2 z3 y y0 y1
          have b := a4 Z z1 z2 z3 y y0 y1
          unfold gm_upd
          split
          · next e =>
            have b1 := z3 (x / 4) (x % 4) i j r0 r1 (by omega) c6 trivial nn i0 j0 c8 row
            have b2 := st4.2.2.2.1 Z z1 z2 z3 (9 * gm_o G (x / 4) + i) (by omega) (by omega)
            rw [e]
            omega
          · exact b
        · rw [gm_u_rowa]
          rcases a5 with a5 | a5
          · rw [(a6 a5).1] at lt ⊢
            exact lt
          · have := a7 a5
            omega
      · obtain ⟨a1, a2, a3, a4, a5, a6, a7⟩ := st5
        refine ⟨a1, a2, a3, a4, a5, fun e => ⟨(a6 e).1, fun r d i' j' r0' r1' d0' d1' w1 w2 w3 w4 w5 w6 => ?_⟩, a7⟩
        by_cases q : 4 * r + d = x ∧ i' = i ∧ j' = j
        · obtain ⟨q1, q2, q3⟩ := q
          have s4 := (hG.2.2.2.2.1 r r0' r1').2.2.2.1
          have er : x / 4 = r := by omega
          have ed : x % 4 = d := by omega
          rw [q2, q3] at w6
          rw [q2, q3]
          rw [er, ed] at c9 bgi
          have c10 : ¬ (min (gm_lk 1000000000 G (m 82) r (d + 1) + m4 101 (9 * gm_o G r + i)) 1000000000 < m5 101 (9 * gm_n G r d + j)) := fun y => c9 ⟨bgi.mpr w6, y⟩
          have e5 := (a6 e).1
          -- the memory is as it was at the beginning of the pass
          have e4 : m4 101 = m2 101 := (st4.2.2.2.2.2.1 (v54 e)).1
          rw [e4] at c10
          rw [e5] at c10
          omega
        · exact (a6 e).2 r d i' j' r0' r1' d0' d1' (by omega) w2 w3 w4 w5 w6
    · have s4 := (hG.2.2.2.2.1 r r0' r1').2.2.2.1
      by_cases e : 4 * r + d = x
      · have er : x / 4 = r := by omega
        have ed : x % 4 = d := by omega
        have pe := d3 (x % 4) (by omega) (by rw [er, ed]; exact d1')
        rw [kk, er, ed] at pe
        have w := gm_p_n hG r0' r1' (d := d) d0' d1'
        have c8 : ¬ (i ≤ k ∧ x % 4 < gm_s G (x / 4) ∧ m 81 x < 0) := c4
        rw [er, ed, pe] at c8
        omega
      · omega
  · obtain ⟨e1, e2⟩ := st3.2.2.2.2.2.1 e0
    rw [e1]
    exact fun r d i j r0 r1 d0 d1 _ nn i0 ij jk w => e2 r d i j r0 r1 d0 d1 (by have := (hG.2.2.2.2.1 r r0 r1).2.2.2.1; omega) nn i0 ij jk w
  · show 2 * gm_sum (m3 101) 72 + v.toNat < 2 * gm_sum (m2 101) 72 + (1 : Int).toNat
    rcases st3.2.2.2.2.1 with y | y
    · rw [(st3.2.2.2.2.2.1 y).1, y]
      show 2 * gm_sum (m2 101) 72 + 0 < 2 * gm_sum (m2 101) 72 + 1
      omega
    · have := st3.2.2.2.2.2.2 y
      rw [y]
      omega
