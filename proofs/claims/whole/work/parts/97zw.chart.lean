/-! CALLS WITH A GRAMMAR: what the calls' pieces keep -/
def gl_J (K u w : Int) (G : gm_G) (A m : gh_M) : Prop := m 2 10 ≠ 0 ∧ gl_tp m ∧ (m 5 1 = m 63 2 ∧ m 5 2 = m 63 3) ∧ m 2 10 = m 63 24 ∧ (m 41 9 ≤ u ∧ m 63 64 ≤ w) ∧ gl_c4 K G m ∧ gl_all K G m ∧ (∀ a, 1 ≤ a → a ≤ 27 → m a = A a) ∧ m 1 = A 1 ∧ m 47 4 = A 47 4 ∧ m 48 = A 48
theorem gl_J_of {K b : Int} {m : gh_M} (inv : gl_I K b m) (h : m 2 10 ≠ 0) : ∃ G, gl_J K (1000 * b) (3200000 * b) G m m := by
  obtain ⟨i1, i2, i3, i4, _, _, G, _, al⟩ := inv
  obtain ⟨c4, all⟩ := al h
  exact ⟨G, h, i1, i2, i3, i4, c4, all, fun _ _ _ => rfl, rfl, rfl, rfl⟩
theorem gl_I_of {K b : Int} {G : gm_G} {A m : gh_M} (j : gl_J K (1000 * b) (3200000 * b) G A m) : gl_I K b m := by
  obtain ⟨j1, j2, j3, j4, j5, j6, j7, j8, j9, _⟩ := j
  have co := j7.2.2.2.2.1
  unfold gl_m2 gk_co at co
  exact ⟨j2, j3, j4, j5, co.2, ⟨j7.2.2.1.2.1.1, j7.2.2.1.2.2.1.1, fun z => absurd z j1⟩, G, ⟨_, _, j6.1⟩, fun _ => ⟨j6, j7⟩⟩
theorem gl_J_K {K u w : Int} {G : gm_G} {A m : gh_M} (j : gl_J K u w G A m) : m 0 3 = K := by
  rcases j.2.2.2.2.2.1.1.1 with h | h
  · exact h.1
  · exact h.1
theorem gl_J_w {K u w u2 w2 : Int} {G : gm_G} {A m : gh_M} (hu : u ≤ u2) (hw : w ≤ w2) (j : gl_J K u w G A m) : gl_J K u2 w2 G A m := by
  obtain ⟨j1, j2, j3, j4, j5, j6⟩ := j
  exact ⟨j1, j2, j3, j4, ⟨by omega, by omega⟩, j6⟩
theorem gl_J_q0 {K u w u2 w2 : Int} {G : gm_G} {A m m2 : gh_M} (s : ∀ a, (1 ≤ a ∧ a ≤ 29) ∨ (64 ≤ a ∧ a ≤ 96) → m2 a = m a) (o : ∀ y, y < 52 → m2 63 y = m 63 y) (bu : m2 41 9 ≤ u2) (bw : m2 63 64 ≤ w2) (c1 : gl_c1 G m2) (c2 : gl_c2 G m2) (c3 : gl_c3 G m2) (c4 : gl_c4 K G m2) (c5 : gl_c5 G m2) (k1 : gl_m1 G m2) (k2 : gl_m2 G m2) (pk : gl_pk m2) (j : gl_J K u w G A m) : gl_J K u2 w2 G m2 m2 := by
  obtain ⟨j1, j2, j3, j4, j5, j6, j7, j8, j9, _⟩ := j
  refine ⟨by rw [s 2 (by decide)]; exact j1, ?_, by rw [s 5 (by decide), o 2 (by decide), o 3 (by decide)]; exact j3, by rw [s 2 (by decide), o 24 (by decide)]; exact j4, ⟨bu, bw⟩, c4, ⟨gl_gr_x (fun a p q => s a (by omega)) (fun a p q => s a (by omega)) (fun y hy => o y (by omega)) j7.1, gl_tx_x (by rw [s 26 (by decide)]) (s 27 (by decide)) (s 96 (by decide)) (o 50 (by decide)) j7.2.1, ⟨c1, c2, c3, c5⟩, k1, k2, pk⟩, fun _ _ _ => rfl, rfl, rfl, rfl⟩
  unfold gl_tp at j2 ⊢
  rw [s 3 (by decide), s 4 (by decide), s 64 (by decide), o 1 (by decide)]
  exact j2
theorem gl_J_q {K u w u2 w2 : Int} {G : gm_G} {A m m2 : gh_M} (s : ∀ a, (1 ≤ a ∧ a ≤ 29) ∨ (64 ≤ a ∧ a ≤ 96) → m2 a = m a) (o : ∀ y, y < 52 → m2 63 y = m 63 y) (bu : m2 41 9 ≤ u2) (bw : m2 63 64 ≤ w2) (c1 : gl_c1 G m2) (c2 : gl_c2 G m2) (c3 : gl_c3 G m2) (c4 : gl_c4 K G m2) (c5 : gl_c5 G m2) (k1 : gl_m1 G m2) (k2 : gl_m2 G m2) (h47 : ∀ y, y = 4 ∨ y = 5 → m2 47 y = m 47 y) (h48 : m2 48 = m 48) (h63 : ∀ y, y = 68 ∨ y = 70 → m2 63 y = m 63 y) (h109 : m2 109 = m 109) (j : gl_J K u w G A m) : gl_J K u2 w2 G A m2 := by
  obtain ⟨r1, r2, r3, r4, r5, r6, r7, _⟩ := gl_J_q0 s o bu bw c1 c2 c3 c4 c5 k1 k2 (gl_pk_x h47 h48 h63 h109 j.2.2.2.2.2.2.1.2.2.2.2.2) j
  obtain ⟨_, _, _, _, _, _, _, j8, j9, j10, j11⟩ := j
  exact ⟨r1, r2, r3, r4, r5, r6, r7, fun a p q => by rw [s a (by omega)]; exact j8 a p q, by rw [s 1 (by decide)]; exact j9, by rw [h47 4 (Or.inl rfl)]; exact j10, by rw [h48]; exact j11⟩
theorem gl_refresh {K u w : Int} {G : gm_G} {A m : gh_M} {Q : Int → gh_M → Prop} (j : gl_J K u w G A m) (H : ∀ m1, gl_J K u w G A m1 → gt_ch G m1 → gx [30, 31, 32, 33, 34, 35] m m1 → Q 0 m1) : w_Chart_refresh m Q := by
  have j0 := j
  obtain ⟨j1, j2, j3, j4, ⟨j5, j5'⟩, j6, ⟨a1, a2, ⟨b1, b2, b3, b5⟩, a4, a5, a6⟩, j8, j9, _⟩ := j
  obtain ⟨hG, hC, _, _, _, _, _, f, _⟩ := a1
  refine gt_refresh hG hC a2.1 f.2.2.2.1.1 b1 (fun m1 x1 n1 _ ch => H m1 ?_ ch x1)
  have e26 : m1 26 3 = m 26 3 := by rw [x1 26 (by decide)]
  exact gl_J_q (fun a h => x1 a (fun z => by
    simp only [List.mem_cons, List.not_mem_nil, or_false] at z
    omega)) (fun y _ => by rw [x1 63 (by decide)]) (by rw [x1 41 (by decide)]; exact j5) (by rw [x1 63 (by decide)]; exact j5') (fun _ => ch) (gl_c2_x (x1 21 (by decide)) e26 (x1 27 (by decide)) (by rw [x1 36 (by decide)]) (x1 37 (by decide)) b2) (gl_c3_x (x1 20 (by decide)) (x1 21 (by decide)) e26 (x1 27 (by decide)) (by rw [x1 36 (by decide)]) (x1 39 (by decide)) b3) (gl_c4_x (x1 0 (by decide)) e26 (x1 27 (by decide)) (x1 41 (by decide)) (x1 42 (by decide)) (x1 118 (by decide)) (x1 119 (by decide)) j6) (gl_c5_x (x1 20 (by decide)) (x1 58 (by decide)) b5) (gl_m1_x (x1 20 (by decide)) e26 (x1 27 (by decide)) (x1 82 (by decide)) (by rw [x1 63 (by decide)]) (fun a p q => x1 a (fun z => by
    simp only [List.mem_cons, List.not_mem_nil, or_false] at z
    omega)) a4) (gl_m2_x e26 (x1 27 (by decide)) (by rw [x1 63 (by decide)]) (by rw [x1 63 (by decide)]) (x1 105 (by decide)) (x1 106 (by decide)) a5) (fun y _ => by rw [x1 47 (by decide)]) (x1 48 (by decide)) (fun y _ => by rw [x1 63 (by decide)]) (x1 109 (by decide)) j0
theorem gl_lay {K u w : Int} {G : gm_G} {A m : gh_M} {Q : Int → gh_M → Prop} (j : gl_J K u w G A m) (H : ∀ m1, gl_J K u w G A m1 → gd_ch G (m1 26 3) (m1 27) (gb (m1 20 5)) (m1 82 0 < 1000000000) m1 → gx [63, 97, 98, 99, 100] m m1 → Q 0 m1) : w_Model_lay m Q := by
  have j0 := j
  obtain ⟨j1, j2, j3, j4, ⟨j5, j5'⟩, j6, ⟨a1, a2, ⟨b1, b2, b3, b5⟩, a4, a5, a6⟩, j8, j9, _⟩ := j
  obtain ⟨hG, hC, hD, _, _, _, _, f, _, mf⟩ := a1
  refine gd_lay hG hD a2.2 mf.2.2.1 Iff.rfl a4 (fun m1 x1 o1 n1 _ ch => ?_)
  have e26 : m1 26 3 = m 26 3 := by rw [x1 26 (by decide)]
  have ch1 : gd_ch G (m1 26 3) (m1 27) (gb (m1 20 5)) (m1 82 0 < 1000000000) m1 := by
    rw [e26, x1 27 (by decide), x1 20 (by decide), x1 82 (by decide)]
    exact ch
  refine H m1 ?_ ch1 x1
  exact gl_J_q (fun a h => x1 a (fun z => by
    simp only [List.mem_cons, List.not_mem_nil, or_false] at z
    omega)) (fun y hy => o1 y (by omega)) (by rw [x1 41 (by decide)]; exact j5) (by rw [o1 64 (by decide)]; exact j5') (gl_c1_x (x1 20 (by decide)) e26 (x1 27 (by decide)) (by rw [x1 30 (by decide)]) (fun a p q => x1 a (fun z => by
    simp only [List.mem_cons, List.not_mem_nil, or_false] at z
    omega)) b1) (gl_c2_x (x1 21 (by decide)) e26 (x1 27 (by decide)) (by rw [x1 36 (by decide)]) (x1 37 (by decide)) b2) (gl_c3_x (x1 20 (by decide)) (x1 21 (by decide)) e26 (x1 27 (by decide)) (by rw [x1 36 (by decide)]) (x1 39 (by decide)) b3) (gl_c4_x (x1 0 (by decide)) e26 (x1 27 (by decide)) (x1 41 (by decide)) (x1 42 (by decide)) (x1 118 (by decide)) (x1 119 (by decide)) j6) (gl_c5_x (x1 20 (by decide)) (x1 58 (by decide)) b5) (fun _ => ch1) (gl_m2_x e26 (x1 27 (by decide)) (o1 61 (by decide)) (o1 64 (by decide)) (x1 105 (by decide)) (x1 106 (by decide)) a5) (fun y _ => by rw [x1 47 (by decide)]) (x1 48 (by decide)) (fun y hy => o1 y (by omega)) (x1 109 (by decide)) j0
/-- cells of neither kind -/
theorem gl_J_n {K u w : Int} {G : gm_G} {A m m2 : gh_M} {S : List Int} (x1 : gx S m m2) (hS : ∀ s, s ∈ S → s = 38 ∨ s = 40 ∨ (101 ≤ s ∧ s ≤ 104) ∨ s = 107 ∨ s = 108) (j : gl_J K u w G A m) : gl_J K u w G A m2 := by
  have j0 := j
  obtain ⟨j1, j2, j3, j4, ⟨j5, j5'⟩, j6, ⟨a1, a2, ⟨b1, b2, b3, b5⟩, a4, a5, a6⟩, j8, j9, _⟩ := j
  have e : ∀ a, a ≠ 38 → a ≠ 40 → (a < 101 ∨ (104 < a ∧ a ≠ 107 ∧ a ≠ 108)) → m2 a = m a := fun a p q r => x1 a (fun z => by
    have := hS a z
    omega)
  have e26 : m2 26 3 = m 26 3 := by rw [e 26 (by decide) (by decide) (by decide)]
  have e63 := e 63 (by decide) (by decide) (by decide)
  exact gl_J_q (fun a h => e a (by omega) (by omega) (by omega)) (fun y _ => by rw [e63]) (by rw [e 41 (by decide) (by decide) (by decide)]; exact j5) (by rw [e63]; exact j5') (gl_c1_x (e 20 (by decide) (by decide) (by decide)) e26 (e 27 (by decide) (by decide) (by decide)) (by rw [e 30 (by decide) (by decide) (by decide)]) (fun a p q => e a (by omega) (by omega) (by omega)) b1) (gl_c2_x (e 21 (by decide) (by decide) (by decide)) e26 (e 27 (by decide) (by decide) (by decide)) (by rw [e 36 (by decide) (by decide) (by decide)]) (e 37 (by decide) (by decide) (by decide)) b2) (gl_c3_x (e 20 (by decide) (by decide) (by decide)) (e 21 (by decide) (by decide) (by decide)) e26 (e 27 (by decide) (by decide) (by decide)) (by rw [e 36 (by decide) (by decide) (by decide)]) (e 39 (by decide) (by decide) (by decide)) b3) (gl_c4_x (e 0 (by decide) (by decide) (by decide)) e26 (e 27 (by decide) (by decide) (by decide)) (e 41 (by decide) (by decide) (by decide)) (e 42 (by decide) (by decide) (by decide)) (e 118 (by decide) (by decide) (by decide)) (e 119 (by decide) (by decide) (by decide)) j6) (gl_c5_x (e 20 (by decide) (by decide) (by decide)) (e 58 (by decide) (by decide) (by decide)) b5) (gl_m1_x (e 20 (by decide) (by decide) (by decide)) e26 (e 27 (by decide) (by decide) (by decide)) (e 82 (by decide) (by decide) (by decide)) (by rw [e63]) (fun a p q => e a (by omega) (by omega) (by omega)) a4) (gl_m2_x e26 (e 27 (by decide) (by decide) (by decide)) (by rw [e63]) (by rw [e63]) (e 105 (by decide) (by decide) (by decide)) (e 106 (by decide) (by decide) (by decide)) a5) (fun y _ => by rw [e 47 (by decide) (by decide) (by decide)]) (e 48 (by decide) (by decide) (by decide)) (fun y _ => by rw [e63]) (e 109 (by decide) (by decide) (by decide)) j0
theorem gl_covers {G : gm_G} {m : gh_M} (hG : gm_ok G) (ht : gt_t m) (ch : gt_ch G m) {n i k : Int} (n0 : 0 ≤ n) (n1 : n < gm_N G) (i0 : 0 ≤ i) (i1 : i ≤ m 26 3) (k0 : 0 ≤ k) (k1 : k ≤ m 26 3) : k_Chart_covers n i k ∧ (p_Chart_covers n i k m ↔ gt_M G (m 26 3) (m 27) n i k) := by
  have hN := hG.2.1
  have t8 := ht.2.1
  have b := gb_test0 (x := m 31 (n * 9 + i)) (i := k) (gbs_le (ch.1.1 (n * 9 + i) (by omega) (by omega)) (by decide)) k0 (by omega)
  have c := ch.1.2 n i k
  unfold k_Chart_covers p_Chart_covers
  refine ⟨⟨by omega, by omega, by omega, by omega⟩, ?_⟩
  rw [← c]
  unfold gt_tab
  refine ⟨fun z => ⟨n0, n1, i0, by omega, k0, ?_⟩, fun z y => b.mp y z.2.2.2.2.2⟩
  by_cases q : gb (m 31 (n * 9 + i)) k
  · exact q
  · exact absurd (b.mpr q) z
theorem gl_J_p {K u w : Int} {G : gm_G} {A m : gh_M} (j : gl_J K u w G A m) : gm_ok G ∧ gm_C m G ∧ gm_D m G ∧ m 63 24 ≠ 0 ∧ m 63 50 = m 26 3 ∧ gt_t m ∧ (∀ k, (¬ k < 0 ∧ k ≤ m 26 3) → p_Model_isPlace k m) ∧ (∀ n, (¬ n < 0 ∧ n < gm_N G) → p_Model_isName n m) ∧ (∀ r, (¬ r < 0 ∧ r < gm_R G) → p_Model_isRule r m) ∧ m 26 3 = A 26 3 ∧ m 27 = A 27 ∧ m 20 = A 20 ∧ m 21 = A 21 := by
  obtain ⟨j1, j2, j3, j4, j5, j6, ⟨a1, a2, _⟩, j8, j9, _⟩ := j
  have h24 : m 63 24 ≠ 0 := by
    rw [← j4]
    exact j1
  refine ⟨a1.1, a1.2.1, a1.2.2.1, h24, a2.2.1, a2.1, fun k hk => ⟨h24, hk.1, by rw [a2.2.1]; exact hk.2⟩, fun n hn => ⟨h24, hn.1, by rw [a1.2.2.1.1]; omega⟩, fun r hr => ⟨h24, hr.1, by rw [a1.2.2.1.2.1]; omega⟩, by rw [j8 26 (by decide) (by decide)], j8 27 (by decide) (by decide), j8 20 (by decide) (by decide), j8 21 (by decide) (by decide)⟩
theorem gl_ifib {P : Prop} {c : Prop} [Decidable c] (h : c ↔ P) : (if c then (1 : Int) else 0) = gt_ib P := by
  by_cases u : c
  · rw [if_pos u, gt_ib_t (h.mp u)]
  · rw [if_neg u, gt_ib_f (fun z => u (h.mpr z))]
/-! WHETHER, WHAT MAY COME, ITEMS -/
theorem gl_caccepts {K u w : Int} {G : gm_G} {A m : gh_M} {v : Int} {Q : Int → gh_M → Prop} (j : gl_J K u w G A m) (hv : ¬ v < 0 ∧ v ≤ A 26 3) (H : ∀ m1, gl_J K u w G A m1 → Q (gt_ib (gt_M G (A 26 3) (A 27) 0 0 v)) m1) : w_House_accepts v m Q := by
  obtain ⟨hG, hC, hD, h24, e50, ht, pl, nm, rl, e26, e27, e20, e21⟩ := gl_J_p j
  have hN0 := hG.1
  refine ⟨fun z => absurd z j.1, fun _ => ⟨fun _ => gl_refresh j (fun m1 j1 ch x1 => ?_), fun z => absurd (show p_House_isPlace v m from ⟨hv.1, by rw [e26]; exact hv.2⟩) z⟩⟩
  obtain ⟨_, _, _, _, _, ht1, _, _, _, f26, f27, _⟩ := gl_J_p j1
  have cv := gl_covers hG ht1 ch (n := 0) (i := 0) (k := v) (Int.le_refl _) (by omega) (Int.le_refl _) ht1.1 (by omega) (by rw [f26]; exact hv.2)
  refine ⟨cv.1, ?_⟩
  rw [gl_ifib cv.2, f26, f27]
  exact H m1 j1
theorem gl_maccepts {K u w : Int} {G : gm_G} {A m : gh_M} {v : Int} {Q : Int → gh_M → Prop} (j : gl_J K u w G A m) (hv : ¬ v < 0 ∧ v ≤ A 26 3) (H : ∀ m1, gl_J K u w G A m1 → Q (gt_ib (gt_M G (A 26 3) (A 27) 0 0 v)) m1) : w_Model_accepts v m Q := by
  obtain ⟨hG, hC, hD, h24, e50, ht, pl, nm, rl, e26, e27, e20, e21⟩ := gl_J_p j
  have hN0 := hG.1
  have t8 := ht.2.1
  refine ⟨False, fun z => False.elim z, fun _ => gl_lay j (fun m1 j1 ch x1 => ?_), fun z => absurd ⟨h24, pl v (by rw [e26]; exact hv)⟩ z⟩
  obtain ⟨_, _, _, _, _, ht1, _, _, _, f26, f27, _⟩ := gl_J_p j1
  have c := ch.2.1 0 0 v (Int.le_refl _) (by omega) (Int.le_refl _) (by decide) (by omega) (by omega)
  have ev : (81 * 0 + 9 * 0 + v : Int) = v := by omega
  rw [ev] at c
  refine ⟨by omega, by omega, ?_⟩
  rw [gl_ifib (P := gt_M G (m1 26 3) (m1 27) 0 0 v) (c := ¬ m1 97 v = 0) c, f26, f27]
  exact H m1 j1
def gl_nv (G : gm_G) (A : gh_M) (k v : Int) : Prop := gbs 27 v ∧ ∀ c, 0 ≤ c → (gb v c ↔ gt_nx G (A 26 3) (A 27) (fun r i => 0 ≤ r ∧ r < gm_R G ∧ gb (A 20 5) r ∧ gt_S G (A 26 3) (A 27) (gb (A 20 5)) True (gm_o G r) i) k c ∨ (c = 26 ∧ gt_M G (A 26 3) (A 27) 0 0 k))
theorem gl_nv_u {G : gm_G} {A : gh_M} {k v v2 : Int} (h : gl_nv G A k v) (h2 : gl_nv G A k v2) : v = v2 := gb_ext h.1 h2.1 (fun i i0 _ => (h.2 i i0).trans (h2.2 i i0).symm)
theorem gl_cnext {K u w : Int} {G : gm_G} {A m : gh_M} {v : Int} {Q : Int → gh_M → Prop} (j : gl_J K u w G A m) (hv : ¬ v < 0 ∧ v ≤ A 26 3) (H : ∀ m1 r, gl_J K u w G A m1 → gl_nv G A v r → Q r m1) : w_House_next v m Q := by
  obtain ⟨hG, hC, hD, h24, e50, ht, pl, nm, rl, e26, e27, e20, e21⟩ := gl_J_p j
  refine ⟨fun z => absurd z j.1, fun _ => ⟨fun _ => gl_refresh j (fun m1 j1 ch x1 => ?_), fun z => absurd (show p_House_isPlace v m from ⟨hv.1, by rw [e26]; exact hv.2⟩) z⟩⟩
  obtain ⟨_, _, _, _, _, ht1, _, _, _, f26, f27, f20, _⟩ := gl_J_p j1
  have t8 := ht1.2.1
  refine ⟨by omega, by omega, H m1 _ j1 ?_⟩
  have c := ch.2.2.2 v (by omega) (by omega)
  rw [f26, f27, f20] at c
  exact c
theorem gl_mnextv {K u w : Int} {G : gm_G} {A m : gh_M} {v r : Int} {Q : Int → gh_M → Prop} (j : gl_J K u w G A m) (hv : ¬ v < 0 ∧ v ≤ A 26 3) (hr : gl_nv G A v r) (H : ∀ m1, gl_J K u w G A m1 → Q r m1) : w_Model_next2 v m Q := by
  obtain ⟨hG, hC, hD, h24, e50, ht, pl, nm, rl, e26, e27, e20, e21⟩ := gl_J_p j
  have t8 := ht.2.1
  refine ⟨False, fun z => False.elim z, fun _ => gl_lay j (fun m1 j1 ch x1 => ?_), fun z => absurd ⟨h24, pl v (by rw [e26]; exact hv)⟩ z⟩
  obtain ⟨_, _, hD1, _, _, ht1, _, _, _, f26, f27, f20, _⟩ := gl_J_p j1
  have g1 := j1.2.2.2.2.2.2.1.1
  refine ⟨by omega, by omega, fun v2 hv2 => ?_⟩
  rw [hv2]
  refine gl_mnext hG hD1 ht1.2.1 g1.2.2.2.2.2.2.2.2.2.2.2.1 ch (by omega) (by rw [f26]; exact hv.2) (fun x gx' hx => ?_)
  have e : x = r := gl_nv_u (k := v) ⟨gx', fun c c0 => ?_⟩ hr
  · rw [e]
    exact H m1 j1
  · rw [hx c c0, f26, f27]
    refine or_congr ?_ Iff.rfl
    have pr : ∀ r i, (0 ≤ r ∧ r < gm_R G ∧ gb (m1 20 5) r ∧ gt_S G (A 26 3) (A 27) (gb (m1 20 5)) (m1 82 0 < 1000000000) (gm_o G r) i) ↔ (0 ≤ r ∧ r < gm_R G ∧ gb (A 20 5) r ∧ gt_S G (A 26 3) (A 27) (gb (A 20 5)) True (gm_o G r) i) := fun r i => by
      rw [← f20]
      refine ⟨fun ⟨y1, y2, y3, y4⟩ => ⟨y1, y2, y3, (gl_S g1 y1 y2 y3).mpr y4⟩, fun ⟨y1, y2, y3, y4⟩ => ⟨y1, y2, y3, (gl_S g1 y1 y2 y3).mp y4⟩⟩
    unfold gt_nx
    refine ⟨fun ⟨r, i, d, y1, y2⟩ => ⟨r, i, d, (pr r i).mp y1, y2⟩, fun ⟨r, i, d, y1, y2⟩ => ⟨r, i, d, (pr r i).mpr y1, y2⟩⟩
noncomputable def gl_iv (G : gm_G) (A : gh_M) (k : Int) : Int := gt_isum G (A 26 3) (A 27) (fun r i => 0 ≤ r ∧ r < gm_R G ∧ gt_S G (A 26 3) (A 27) (fun _ => True) True (gm_o G r) i) k
theorem gl_citems {K u w : Int} {G : gm_G} {A m : gh_M} {v : Int} {Q : Int → gh_M → Prop} (j : gl_J K u w G A m) (hv : ¬ v < 0 ∧ v ≤ A 26 3) (H : ∀ m1, gl_J K u w G A m1 → Q (gl_iv G A v) m1) : w_House_items v m Q := by
  obtain ⟨hG, hC, hD, h24, e50, ht, pl, nm, rl, e26, e27, e20, e21⟩ := gl_J_p j
  refine ⟨fun z => absurd z j.1, fun _ => ⟨fun _ => gl_refresh j (fun m1 j1 ch x1 => ?_), fun z => absurd (show p_House_isPlace v m from ⟨hv.1, by rw [e26]; exact hv.2⟩) z⟩⟩
  obtain ⟨_, _, _, _, _, ht1, _, _, _, f26, f27, f20, _⟩ := gl_J_p j1
  have t8 := ht1.2.1
  refine ⟨by omega, by omega, ?_⟩
  have c := ch.2.2.1 v (by omega) (by omega)
  rw [f26, f27] at c
  rw [c]
  exact H m1 j1
theorem gl_mitemsv {K u w : Int} {G : gm_G} {A m : gh_M} {v : Int} {Q : Int → gh_M → Prop} (j : gl_J K u w G A m) (hv : ¬ v < 0 ∧ v ≤ A 26 3) (H : ∀ m1, gl_J K u w G A m1 → Q (gl_iv G A v) m1) : w_Model_items v m Q := by
  obtain ⟨hG, hC, hD, h24, e50, ht, pl, nm, rl, e26, e27, e20, e21⟩ := gl_J_p j
  refine ⟨False, fun z => False.elim z, fun _ => gl_lay j (fun m1 j1 ch x1 => ?_), fun z => absurd ⟨h24, pl v (by rw [e26]; exact hv)⟩ z⟩
  obtain ⟨_, _, hD1, _, _, ht1, _, _, _, f26, f27, f20, _⟩ := gl_J_p j1
  refine gl_mitems hG hD1 ht1.2.1 ch (by omega) (by rw [f26]; exact hv.2) ?_
  rw [f26, f27]
  exact H m1 j1
noncomputable def gl_hv (G : gm_G) (A : gh_M) (r d i k : Int) : Int := gt_ib (gt_S G (A 26 3) (A 27) (fun _ => True) True (gm_o G r) i ∧ gt_row G (A 26 3) (A 27) (gt_M G (A 26 3) (A 27)) r d i k)
theorem gl_cisItem {K u w : Int} {G : gm_G} {A m : gh_M} {r d i k : Int} {Q : Int → gh_M → Prop} (j : gl_J K u w G A m) (hr : ¬ r < 0 ∧ r < gm_R G) (hd : ¬ d < 0 ∧ d ≤ gm_s G r) (hi : ¬ i < 0 ∧ i ≤ A 26 3) (hk : ¬ k < 0 ∧ k ≤ A 26 3) (H : ∀ m1, gl_J K u w G A m1 → Q (gl_hv G A r d i k) m1) : w_Chart_refresh m (fun _ m1539 => w_Chart_hasItem r d i k m1539 (fun r1540 => Q (if (¬ (r1540 = 0)) then (1:Int) else 0) m1539)) := by
  refine gl_refresh j (fun m1 j1 ch x1 => ?_)
  obtain ⟨hG, hC1, _, _, _, ht1, _, _, _, f26, f27, f20, _⟩ := gl_J_p j1
  have q := H m1 j1
  unfold gl_hv at q
  refine gl_hasItem hG hC1 ht1 ch (by omega) hr.2 (by omega) hd.2 (by omega) (by rw [f26]; exact hi.2) (by omega) (by rw [f26]; exact hk.2) (fun a c => ?_) (fun no => ?_)
  · rw [f26, f27] at a c
    rw [gt_ib_t ⟨a, c⟩] at q
    rw [if_pos (by decide)]
    exact q
  · rw [f26, f27] at no
    rw [gt_ib_f no] at q
    rw [if_neg (by decide)]
    exact q
theorem gl_misItem {K u w : Int} {G : gm_G} {A m : gh_M} {r d i k : Int} {Q : Int → gh_M → Prop} (j : gl_J K u w G A m) (hr : ¬ r < 0 ∧ r < gm_R G) (hd : ¬ d < 0 ∧ d ≤ gm_s G r) (hi : ¬ i < 0 ∧ i ≤ A 26 3) (hk : ¬ k < 0 ∧ k ≤ A 26 3) (H : ∀ m1, gl_J K u w G A m1 → Q (gl_hv G A r d i k) m1) : w_Model_lay m (fun _ m3853 => k_Model_isItemAt r d i k m3853 ∧ Q (if p_Model_isItemAt r d i k m3853 then (1:Int) else 0) m3853) := by
  refine gl_lay j (fun m1 j1 ch x1 => ?_)
  obtain ⟨hG, hC1, hD1, _, _, ht1, _, _, _, f26, f27, f20, _⟩ := gl_J_p j1
  have it := gl_isItemAt hG hD1 ht1.2.1 ch (r := r) (d := d) (i := i) (k := k) (by omega) hr.2 (by omega) hd.2 (by omega) (by rw [f26]; exact hi.2) (by omega) (by rw [f26]; exact hk.2)
  have q := H m1 j1
  unfold gl_hv at q
  rw [← f26, ← f27] at q
  refine ⟨it.1, ?_⟩
  rw [gl_ifib it.2]
  exact q
theorem gl_cmakes {K u w : Int} {G : gm_G} {A m : gh_M} {n i k : Int} {Q : Int → gh_M → Prop} (j : gl_J K u w G A m) (hn : ¬ n < 0 ∧ n < gm_N G) (hi : ¬ i < 0 ∧ i ≤ A 26 3) (hk : ¬ k < 0 ∧ k ≤ A 26 3) (H : ∀ m1, gl_J K u w G A m1 → Q (gt_ib (gt_M G (A 26 3) (A 27) n i k)) m1) : w_Chart_refresh m (fun _ m1557 => k_Chart_covers n i k ∧ Q (if (p_Chart_covers n i k m1557) then (1:Int) else 0) m1557) := by
  refine gl_refresh j (fun m1 j1 ch x1 => ?_)
  obtain ⟨hG, _, _, _, _, ht1, _, _, _, f26, f27, _⟩ := gl_J_p j1
  have cv := gl_covers hG ht1 ch (n := n) (i := i) (k := k) (by omega) hn.2 (by omega) (by rw [f26]; exact hi.2) (by omega) (by rw [f26]; exact hk.2)
  refine ⟨cv.1, ?_⟩
  rw [gl_ifib cv.2, f26, f27]
  exact H m1 j1
theorem gl_mmakes {K u w : Int} {G : gm_G} {A m : gh_M} {n i k : Int} {Q : Int → gh_M → Prop} (j : gl_J K u w G A m) (hn : ¬ n < 0 ∧ n < gm_N G) (hi : ¬ i < 0 ∧ i ≤ A 26 3) (hk : ¬ k < 0 ∧ k ≤ A 26 3) (H : ∀ m1, gl_J K u w G A m1 → Q (gt_ib (gt_M G (A 26 3) (A 27) n i k)) m1) : w_Model_lay m (fun _ m3868 => gh_i (81 * n) ∧ gh_i (9 * i) ∧ gh_i ((81 * n) + (9 * i)) ∧ gh_i (((81 * n) + (9 * i)) + k) ∧ 0 ≤ ((81 * n) + (9 * i)) + k ∧ (((81 * n) + (9 * i)) + k) < 648 ∧ Q (if p_Model_bit (m3868 97 (((81 * n) + (9 * i)) + k)) then (1:Int) else 0) m3868) := by
  refine gl_lay j (fun m1 j1 ch x1 => ?_)
  obtain ⟨hG, _, _, _, _, ht1, _, _, _, f26, f27, _⟩ := gl_J_p j1
  have hN := hG.2.1
  have t8 := ht1.2.1
  have c := ch.2.1 n i k (by omega) hn.2 (by omega) (by omega) (by omega) (by omega)
  refine ⟨by omega, by omega, by omega, by omega, by omega, by omega, ?_⟩
  rw [gl_ifib (P := gt_M G (m1 26 3) (m1 27) n i k) (c := ¬ m1 97 (81 * n + 9 * i + k) = 0) c, f26, f27]
  exact H m1 j1
