/-! TREES: the class's tables -/
def gk_ue (G : gm_G) (z : Int) (t : Int → Int) (m : gh_M) : Prop := m 41 7 = 66 → ∀ n h, 0 ≤ n → n < gm_N G → 0 < h → h < 256 → m 67 (n * 256 + h) = m 41 10 → m 66 (n * 256 + h) = gk_C G z t n 0 0 (gb h)
theorem gk_nb0 {x : Int} : ¬ gb 0 x := gb_0 x
theorem gk_C_nil {G : gm_G} (hG : gm_ok G) {z : Int} {t : Int → Int} {E : Int} (e1 : gm_Ecl G E) {n i j : Int} (n0 : 0 ≤ n) (n1 : n < gm_N G) : gk_C G z t n i j (gb 0) = gk_C G z t n i j (fun _ => False) := gk_C_cg hG e1 n0 n1 (fun m _ _ => ⟨fun y => gb_0 m y, False.elim⟩)
theorem gk_countOver {gk_K : Int} {G : gm_G} {z : Int} {t : Int → Int} {E : Int} {O : Int → Int} {m : gh_M} {Q : Int → gh_M → Prop} {i j : Int} (hG : gm_ok G) (fa : gk_fa G E O) (i0 : 0 ≤ i) (ij : i ≤ j) (jz : j ≤ z) (z8 : z ≤ 8) (cx : gk_cx G z t O m) (mem : gk_mem gk_K m) (t0 : 0 ≤ m 41 9) (tb : m 41 9 < 2147483647) (tg : m 41 7 = 66 → ∀ x, m 67 x ≤ m 41 9) (pl : gk_pl G z t i j m) (hj : 0 < j → (∀ n, 0 ≤ n → n < gm_N G → m 42 ((n * 9 + 0) * 9 + 0) = gk_C G z t n 0 0 (fun _ => False)) ∧ 1 ≤ m 41 10 ∧ m 41 10 ≤ m 41 9 ∧ gk_ue G z t m) (H : ∀ m2, gx gk_fl m m2 → (∀ x, x ≠ 7 → x ≠ 8 → x ≠ 9 → x ≠ 10 → m2 41 x = m 41 x) → m2 41 9 = m 41 9 + 1 → (∀ x, x % 81 ≠ 9 * i + j → m2 42 x = m 42 x) → gk_mem gk_K m2 → gk_tg m2 → gk_ue G z t m2 → gk_un G z t i j m2 → (∀ n, 0 ≤ n → n < gm_N G → m2 42 ((n * 9 + i) * 9 + j) = gk_C G z t n i j (fun _ => False)) → Q 0 m2) : w_Forest_countOver i j m Q := by
  have hN0 := hG.1
  have hN := hG.2.1
  refine ⟨by omega, fun m1 => gx [41] m m1 ∧ (∀ x, x ≠ 9 → x ≠ 10 → m1 41 x = m 41 x) ∧ m1 41 9 = m 41 9 + 1 ∧ 1 ≤ m1 41 10 ∧ m1 41 10 ≤ m1 41 9 ∧ gk_ue G z t m1, fun m1 ⟨x1, o1, u1, u2, u3, u4⟩ => ?_, fun c => ?_, fun c => ?_⟩
  rotate_left
  · have e10 : gh_u (gh_u m 41 9 (m 41 9 + 1)) 41 10 (m 41 9 + 1) 41 9 = m 41 9 + 1 := by
      rw [gh_u_i (by decide), gh_u_s]
    have hx : gx [41] m (gh_u (gh_u m 41 9 (m 41 9 + 1)) 41 10 (m 41 9 + 1)) := gx_u (gx_u gx_rf (by decide)) (by decide)
    refine ⟨hx, fun x a b => by rw [gh_u_i b, gh_u_i a], e10, by rw [gh_u_s]; omega, by rw [gh_u_s, e10]; omega, fun y n h n0 n1 h0 h1 w => ?_⟩
    rw [gh_u_i (by decide), gh_u_i (by decide)] at y
    have := tg y (n * 256 + h)
    rw [hx 67 (by decide), gh_u_s] at w
    omega
  · have hx : gx [41] m (gh_u m 41 9 (m 41 9 + 1)) := gx_one _ _ _ _
    obtain ⟨j1, j2, j3, j4⟩ := hj (by omega)
    refine ⟨hx, fun x a b => gh_u_i a, gh_u_s _ _ _ _, by rw [gh_u_i (by decide)]; exact j2, by rw [gh_u_i (by decide), gh_u_s]; omega, fun y n h n0 n1 h0 h1 w => ?_⟩
    rw [gh_u_i (by decide)] at y
    rw [hx 67 (by decide), gh_u_i (by decide)] at w
    rw [hx 66 (by decide)]
    exact j4 y n h n0 n1 h0 h1 w
  refine ⟨fun n m2 => 0 ≤ n ∧ n ≤ gm_N G ∧ gx [42] m1 m2 ∧ (∀ x, x % 81 ≠ 9 * i + j → m2 42 x = m1 42 x) ∧ ∀ k, 0 ≤ k → k < n → m2 42 ((k * 9 + i) * 9 + j) = -1 ∨ m2 42 ((k * 9 + i) * 9 + j) = gk_C G z t k i j (fun _ => False), fun n _ => (30 - n).toNat, ⟨by omega, by omega, gx_rf, fun _ _ => rfl, fun k a b => by omega⟩, ?_⟩
  rintro n m2 ⟨n0, n1, x2, o2, d2⟩
  have x02 : gx [41, 42] m m2 := fun a ha => (x2 a (fun y => ha (by rw [List.mem_singleton.mp y]; decide))).trans (x1 a (fun y => ha (by rw [List.mem_singleton.mp y]; decide)))
  have cx2 := gk_cx_x x02 (by decide) cx
  have e42 : m1 42 = m 42 := x1 42 (by decide)
  unfold f_Forest_countOver_24
  rw [cx2.1.1]
  refine ⟨fun c => ⟨⟨by omega, by omega, by omega, by omega⟩, fun _ _ => ⟨⟨by omega, by omega, by omega, by omega⟩, by omega, by omega⟩, by omega, by omega, by omega, ⟨by omega, by omega, gx_u x2 (List.mem_singleton.mpr rfl), fun x y => ?_, fun k a b => ?_⟩, by (try dsimp only); omega⟩, fun c => ?_⟩
  · rw [gh_u_i (by omega)]
    exact o2 x y
  · by_cases q : k = n
    · rw [q, gh_u_s]
      by_cases q1 : i = j
      · rw [if_pos q1]
        by_cases q2 : j ≤ 0
        · rw [if_pos q2]
          exact Or.inl rfl
        · rw [if_neg q2]
          refine Or.inr ?_
          have j1 := (hj (by omega)).1 n n0 c
          rw [o2 ((n * 9 + 0) * 9 + 0) (by omega), e42, j1, ← q1]
          exact gk_C_pp hG (by omega) (by omega) i0 (by omega)
      · rw [if_neg q1]
        exact Or.inl rfl
    · rw [gh_u_i (by omega)]
      exact d2 k a (by omega)
  have st2 : gk_st gk_K G z t i j i j m2 := by
    refine ⟨?_, ?_, ?_, fun k a b => d2 k a (by omega), ?_, ?_⟩
    · unfold gk_mem
      rw [x2 41 (by decide), o1 7 (by decide) (by decide), o1 8 (by decide) (by decide), x02 0 (by decide)]
      exact mem
    · intro y n' h a b c' d'
      rw [x2 41 (by decide)] at y
      rw [x2 67 (by decide), x2 66 (by decide), x2 41 (by decide)]
      refine ⟨fun w => u4 y n' h a b c' d' w, fun _ w => ?_⟩
      rw [o1 7 (by decide) (by decide)] at y
      have := tg y ((8 + n') * 256 + h)
      rw [x1 67 (by decide), u1] at w
      omega
    · intro n' k e a b c' d' e' w
      rw [o2 _ (by omega), e42]
      exact pl n' k e a b c' d' e' w
    · rw [x2 41 (by decide), u1]
      omega
    · unfold gk_tg
      rw [x2 41 (by decide), x02 67 (by decide)]
      refine ⟨u2, u3, fun y x => ?_⟩
      rw [o1 7 (by decide) (by decide)] at y
      have := tg y x
      rw [u1]
      omega
  refine ⟨fun n m3 => 0 ≤ n ∧ n ≤ gm_N G ∧ gk_fx 0 i j m2 m3 ∧ gk_st gk_K G z t i j i j m3 ∧ ∀ k, 0 ≤ k → k < n → m3 42 ((k * 9 + i) * 9 + j) = gk_C G z t k i j (fun _ => False), fun n _ => (30 - n).toNat, ⟨by omega, by omega, gk_fx_rf, st2, fun k a b => by omega⟩, ?_⟩
  rintro k3 m3 ⟨k0, k1, fx3, st3, d3⟩
  have cx3 := gk_cx_x fx3.1 (by decide) cx2
  unfold f_Forest_countOver_80
  rw [cx3.1.1]
  refine ⟨fun c3 => ⟨⟨by omega, by omega, by omega, by omega⟩, ?_⟩, fun c3 => ?_⟩
  · refine gk_countOf hG fa i0 ij jz z8 (fun _ => ⟨rfl, rfl⟩) 10 k3 0 0 m3 _ (by decide) k0 c3 (gbs_0 8) (Int.le_refl _) (by decide) (fun _ => ⟨fun _ => False, ?_, fun _ _ _ y => False.elim y, fun _ _ _ y => False.elim y, fun _ _ _ y => False.elim y⟩) cx3 st3 (fun m4 fx4 st4 => ⟨by omega, by omega, by omega, ⟨by omega, by omega, ?_, ?_, fun k a b => ?_⟩, by (try dsimp only); omega⟩)
    · have := gk_fr_le (fun _ => False)
      omega
    · refine gk_fx_tr (Int.le_refl 0) fx3 (gk_fx_tr (Int.le_refl 0) fx4 ⟨gx_u gx_rf (by decide), fun x _ _ => gh_u_a (by decide), fun x _ => gh_u_a (by decide), fun x _ => gh_u_a (by decide), fun x y => gh_u_i (by omega), fun x y => ?_⟩)
      by_cases q : x = (k3 * 9 + i) * 9 + j
      · rw [q] at y
        rw [q, gh_u_s, gk_C_nil hG fa.1 k0 c3]
        rcases st4.2.2.2.1 k3 k0 c3 with u | u
        · omega
        · exact u.symm
      · exact gh_u_i q
    · have hx5 : gx [42] m4 (gh_u m4 42 ((k3 * 9 + i) * 9 + j) (gk_C G z t k3 i j (gb 0))) := gx_one _ _ _ _
      refine ⟨?_, ?_, fun n' k e a b c' d' e' y => ?_, fun n' a b => ?_, ?_, ?_⟩
      · unfold gk_mem
        rw [hx5 0 (by decide), hx5 41 (by decide)]
        exact st4.1
      · unfold gk_un
        rw [hx5 66 (by decide), hx5 67 (by decide), hx5 41 (by decide)]
        exact st4.2.1
      · rw [gh_u_i (by omega)]
        exact st4.2.2.1 n' k e a b c' d' e' y
      · by_cases q : n' = k3
        · rw [q, gh_u_s, gk_C_nil hG fa.1 k0 c3]
          exact Or.inr rfl
        · rw [gh_u_i (by omega)]
          exact st4.2.2.2.1 n' a b
      · rw [hx5 41 (by decide)]
        exact st4.2.2.2.2.1
      · unfold gk_tg
        rw [hx5 41 (by decide), hx5 67 (by decide)]
        exact st4.2.2.2.2.2
    · by_cases q : k = k3
      · rw [q, gh_u_s]
        exact gk_C_nil hG fa.1 k0 c3
      · rw [gh_u_i (by omega)]
        have e := d3 k a (by omega)
        have nn := (gk_C_b hG (z := z) (t := t) k i j (fun _ => False)).1
        rw [fx4.2.2.2.2.2 _ (by omega)]
        exact e
  · refine H m3 (fun a ha => (fx3.1 a ha).trans (x02 a (fun y => ha (by
      rcases List.mem_cons.mp y with y | y
      · rw [y]
        decide
      · rw [List.mem_singleton.mp y]
        decide)))) (fun x a b c' d' => ?_) ?_ (fun x y => ?_) st3.1 st3.2.2.2.2.2 (fun y n' h a b c' d' => ((st3.2.1 y n' h a b c' d').1)) st3.2.1 (fun n' a b => d3 n' a (by omega))
    · rw [fx3.2.1 x a b, x2 41 (by decide), o1 x c' d']
    · rw [fx3.2.1 9 (by decide) (by decide), x2 41 (by decide), u1]
    · rw [fx3.2.2.2.2.1 x y, o2 x y, e42]

