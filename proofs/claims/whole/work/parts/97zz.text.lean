/-! THE TEXT CHANGES -/
theorem gl_newtext {K b c : Int} {G : gm_G} {m m2 : gh_M} (j : gl_J K (1000 * b) (3200000 * b) G m m) (s : ∀ a, (1 ≤ a ∧ a ≤ 25) ∨ (64 ≤ a ∧ a ≤ 95) → m2 a = m a) (o : ∀ y, y < 50 → m2 63 y = m 63 y) (tx : gl_tx m2) (c0 : -1 ≤ c) (c1 : c ≤ m 26 3) (c2 : c ≤ m2 26 3) (pre : ∀ p, 0 ≤ p → p < c → m2 27 p = m 27 p) (k30 : m2 30 3 = 0) (g9 : gbs 9 (m2 36 4)) (bits : ∀ i, 0 ≤ i → (gb (m2 36 4) i ↔ gb (m 36 4) i ∧ i ≤ c)) (r7 : m2 36 7 = min (m 36 7) c) (w37 : m2 37 = m 37) (w39 : m2 39 = m 39) (e0 : m2 0 = m 0) (e42 : m2 42 = m 42) (e118 : m2 118 = m 118) (e119 : m2 119 = m 119) (e41 : ∀ x, x ≠ 11 → m2 41 x = m 41 x) (e11 : m2 41 11 = min (m 41 11) c) (p47 : m2 47 4 = 0) (p68 : m2 63 68 = 0) (e58 : m2 58 = m 58) (l52 : m2 63 52 = 0) (l61 : m2 63 61 = 0) (l64 : m2 63 64 = m 63 64) (e106 : m2 106 = m 106) : gl_I K (b + 1) m2 := by
  have hG := (gl_J_p j).1
  obtain ⟨j1, j2, j3, j4, ⟨j5, j5'⟩, j6, ⟨a1, a2, ⟨b1, b2, b3, b5⟩, a4, a5, a6⟩, j8, j9, _⟩ := j
  have t8 := a2.1.2.1
  have f20 := s 20 (by decide)
  have f21 := s 21 (by decide)
  have l1 := a1.2.2.2.2.2.2.2.1.2.1.1
  have tp2 : gl_tp m2 := by
    unfold gl_tp at j2 ⊢
    rw [s 3 (by decide), s 4 (by decide), s 64 (by decide), o 1 (by decide)]
    exact j2
  have c4 : gl_c4 K G m2 := gl_c4_of (gk_fo_forget hG c0 c1 c2 (fun p p0 p1 => (pre p p0 p1).symm) j6.1 e0 e42 e118 e119 e41 e11)
  have co := a5
  unfold gl_m2 gk_co at co
  refine ⟨tp2, by rw [s 5 (by decide), o 2 (by decide), o 3 (by decide)]; exact j3, by rw [s 2 (by decide), o 24 (by decide)]; exact j4, ⟨by rw [e41 9 (by decide)]; omega, by rw [l64]; omega⟩, by rw [e106, l64]; exact co.2, ⟨g9, by rw [r7]; have := b3.1; omega, fun z => by rw [s 2 (by decide)] at z; exact absurd z j1⟩, G, ⟨_, _, c4.1⟩, fun _ => ⟨c4, gl_gr_x (fun a p q => s a (by omega)) (fun a p q => s a (by omega)) (fun y hy => o y (by omega)) a1, tx, ⟨fun z => absurd k30 z, ⟨g9, fun k k0 hk => ?_⟩, ⟨by rw [r7]; have := b3.1; omega, by rw [r7]; omega, ?_⟩, gl_c5_x f20 e58 b5⟩, fun z => absurd l52 z, ⟨fun z => absurd l61 z, by rw [e106, l64]; exact co.2⟩, ⟨by rw [p47]; decide, by rw [p47]; exact p68, fun z => absurd p47 z, fun x x0 x1 => by rw [p47] at x1; omega⟩⟩⟩
  · obtain ⟨h1, h2⟩ := (bits k k0).mp hk
    obtain ⟨_, z', t', P, p1, p2, p3, p4, p5⟩ := b2.2 k k0 h1
    rw [f21, w37]
    exact ⟨by omega, z', t', P, p1, p2, fun p q0 q1 => by rw [pre p q0 (by omega)]; exact p3 p q0 q1, p4, p5⟩
  · rw [r7]
    refine gr_rdy_cg hG l1 (J := m 36 7) (by have := b3.2.1; omega) (by omega) (by rw [f20]) f21 (fun l l0 l1' => (pre l l0 (by omega)).symm) (fun x _ _ => by rw [w39]) b3.2.2
theorem gl_put {K b : Int} {m : gh_M} {Q1 : Int → gh_M → Prop} {v : Int} (inv : gl_I K b m) (H : ∀ r m1, m1 1 = m 1 → m1 0 3 = K → (∀ Q2 : Int → gh_M → Prop, (∀ m2, m2 1 = m 1 → gl_I K (b + 1) m2 → Q2 r m2) → w_Model_put v m1 Q2) → Q1 r m1) : w_House_put v m Q1 := by
  have hK := gl_I_K inv
  by_cases hv : ¬ v < 0 ∧ v < 26
  · have hvm : ¬ v < 0 ∧ v ≤ 25 := ⟨hv.1, by omega⟩
    by_cases h : m 2 10 = 0
    · have h' : m 63 24 = 0 := by rw [← inv.2.2.1]; exact h
      exact ⟨fun _ => ⟨fun _ => H _ m rfl hK (fun Q2 h2 => ⟨fun _ => ⟨fun _ => h2 m rfl (gl_I_up inv), fun z => absurd h' z⟩, fun z => absurd hvm z⟩), fun z => absurd h z⟩, fun z => absurd hv z⟩
    obtain ⟨G, J⟩ := gl_J_of inv h
    obtain ⟨hG, hC, hD, h24, e50, ht, pl, nm, rl, _⟩ := gl_J_p J
    have t0 := ht.1
    have t8 := ht.2.1
    have tx := J.2.2.2.2.2.2.1.2.1
    have g9 := J.2.2.2.2.2.2.1.2.2.1.2.1.1
    refine ⟨fun _ => ⟨fun z => absurd z h, fun _ => ⟨fun lt => ?_, fun ge => ?_⟩⟩, fun z => absurd hv z⟩
    · refine gl_changed (K := K) (G := G) (by omega) (by omega) g9 (fun m1 x1 k30 g9' bits r7 e41 e11 p47 => ?_)
      rw [x1 26 (by decide)]
      refine ⟨t0, lt, by omega, ?_⟩
      obtain ⟨m2, hm2⟩ : ∃ m2, m2 = gh_u (gh_u m1 27 (m 26 3) v) 26 3 (m 26 3 + 1) := ⟨_, rfl⟩
      rw [← hm2]
      have x2 : gx [26, 27] m1 m2 := by
        rw [hm2]
        exact gx_u (gx_u gx_rf (by decide)) (by decide)
      have s26 : m2 26 3 = m 26 3 + 1 := by
        rw [hm2, gh_u_s]
      have s27 : m2 27 (m 26 3) = v := by
        rw [hm2, gh_u_a (by decide), gh_u_s]
      have o27 : ∀ x, x ≠ m 26 3 → m2 27 x = m 27 x := fun x xn => by
        rw [hm2, gh_u_a (by decide), gh_u_i xn, x1 27 (by decide)]
      clear hm2
      have x12 : gx [26, 27, 30, 36, 41, 47] m m2 := gx_t (gx_sub x1 (by decide)) (gx_sub x2 (by decide))
      refine H _ m2 (x12 1 (by decide)) (by rw [x12 0 (by decide)]; exact hK) (fun Q2 h2 => ?_)
      unfold w_Model_put w_Model_changed
      rw [x12 63 (by decide), e50]
      refine ⟨fun _ => ⟨fun z => absurd z h24, fun _ => ⟨fun z => by omega, fun _ => ⟨t0, lt, by omega, ?_⟩⟩⟩, fun z => absurd hvm z⟩
      obtain ⟨m3, hm3⟩ : ∃ m3, m3 = gh_u (gh_u (gh_u (gh_u (gh_u (gh_u m2 96 (m 26 3) v) 63 50 (m 26 3 + 1)) 63 52 0) 63 61 0) 63 68 0) 63 70 0 := ⟨_, rfl⟩
      (try dsimp only)
      rw [← hm3]
      have x3 : gx [63, 96] m2 m3 := by
        rw [hm3]
        exact gx_u (gx_u (gx_u (gx_u (gx_u (gx_u gx_rf (by decide)) (by decide)) (by decide)) (by decide)) (by decide)) (by decide)
      have o63 : ∀ y, y ≠ 50 → y ≠ 52 → y ≠ 61 → y ≠ 68 → y ≠ 70 → m3 63 y = m 63 y := fun y y1 y2 y3 y4 y5 => by
        rw [hm3, gh_u_i y5, gh_u_i y4, gh_u_i y3, gh_u_i y2, gh_u_i y1, gh_u_a (by decide), x12 63 (by decide)]
      have s50 : m3 63 50 = m 26 3 + 1 := by
        rw [hm3, gh_u_i (by decide), gh_u_i (by decide), gh_u_i (by decide), gh_u_i (by decide), gh_u_s]
      have s52 : m3 63 52 = 0 := by
        rw [hm3, gh_u_i (by decide), gh_u_i (by decide), gh_u_i (by decide), gh_u_s]
      have s61 : m3 63 61 = 0 := by
        rw [hm3, gh_u_i (by decide), gh_u_i (by decide), gh_u_s]
      have s68 : m3 63 68 = 0 := by
        rw [hm3, gh_u_i (by decide), gh_u_s]
      have s96 : m3 96 (m 26 3) = v := by
        rw [hm3, gh_u_a (by decide), gh_u_a (by decide), gh_u_a (by decide), gh_u_a (by decide), gh_u_a (by decide), gh_u_s]
      have o96 : ∀ x, x ≠ m 26 3 → m3 96 x = m 96 x := fun x xn => by
        rw [hm3, gh_u_a (by decide), gh_u_a (by decide), gh_u_a (by decide), gh_u_a (by decide), gh_u_a (by decide), gh_u_i xn, x12 96 (by decide)]
      clear hm3
      have x13 : gx [26, 27, 30, 36, 41, 47, 63, 96] m m3 := gx_t (gx_sub x12 (by decide)) (gx_sub x3 (by decide))
      have g26 : m3 26 3 = m 26 3 + 1 := by rw [x3 26 (by decide)]; exact s26
      have g27 := x3 27 (by decide)
      rw [s50]
      have tx3 : gl_tx m3 := by
        refine ⟨⟨by omega, by omega, fun k k0 k1 => ?_⟩, by rw [s50, g26], by omega, by omega, fun k k0 k1 => ?_⟩
        · rw [g26] at k1
          rw [g27]
          by_cases q : k = m 26 3
          · rw [q, s27]
            omega
          · rw [o27 k q]
            exact tx.1.2.2 k k0 (by omega)
        · rw [g26] at k1
          rw [g27]
          by_cases q : k = m 26 3
          · rw [q, s27, s96]
            exact ⟨rfl, by omega, hv.2⟩
          · rw [o27 k q, o96 k q]
            exact tx.2.2.2.2 k k0 (by omega)
      refine h2 m3 (x13 1 (by decide)) (gl_newtext (c := m 26 3) J (fun a ha => x13 a (fun z => by
        simp only [List.mem_cons, List.not_mem_nil, or_false] at z
        omega)) (fun y hy => o63 y (by omega) (by omega) (by omega) (by omega) (by omega)) tx3 (by omega) (Int.le_refl _) (by omega) (fun p p0 p1 => by rw [g27]; exact o27 p (by omega)) (by rw [x3 30 (by decide), x2 30 (by decide)]; exact k30) (by rw [x3 36 (by decide), x2 36 (by decide)]; exact g9') (fun i i0 => by rw [x3 36 (by decide), x2 36 (by decide)]; exact bits i i0) (by rw [x3 36 (by decide), x2 36 (by decide)]; exact r7) (x13 37 (by decide)) (x13 39 (by decide)) (x13 0 (by decide)) (x13 42 (by decide)) (x13 118 (by decide)) (x13 119 (by decide)) (fun x xn => by rw [x3 41 (by decide), x2 41 (by decide)]; exact e41 x xn) (by rw [x3 41 (by decide), x2 41 (by decide)]; exact e11) (by rw [x3 47 (by decide), x2 47 (by decide)]; exact p47) s68 (x13 58 (by decide)) s52 s61 (o63 64 (by decide) (by decide) (by decide) (by decide) (by decide)) (x13 106 (by decide)))
    · refine H _ m rfl hK (fun Q2 h2 => ⟨fun _ => ⟨fun z => absurd z h24, fun _ => ⟨fun _ => h2 m rfl (gl_I_up inv), fun z => by omega⟩⟩, fun z => absurd hvm z⟩)
  · have hvm : ¬ (¬ v < 0 ∧ v ≤ 25) := fun z => hv ⟨z.1, by omega⟩
    exact ⟨fun z => absurd z hv, fun _ => H _ m rfl hK (fun Q2 h2 => ⟨fun z => absurd z hvm, fun _ => h2 m rfl (gl_I_up inv)⟩)⟩
theorem gl_back {K b : Int} {m : gh_M} {Q1 : Int → gh_M → Prop} {v : Int} (inv : gl_I K b m) (H : ∀ r m1, m1 1 = m 1 → m1 0 3 = K → (∀ Q2 : Int → gh_M → Prop, (∀ m2, m2 1 = m 1 → gl_I K (b + 1) m2 → Q2 r m2) → w_Model_back v m1 Q2) → Q1 r m1) : w_House_back v m Q1 := by
  have hK := gl_I_K inv
  have e50 : m 63 50 = m 26 3 := by
    by_cases h : m 2 10 = 0
    · exact (inv.2.2.2.2.2.1.2.2 h).symm
    · obtain ⟨G, J⟩ := gl_J_of inv h
      exact (gl_J_p J).2.2.2.2.1
  by_cases hv : ¬ v < 0 ∧ v ≤ m 26 3
  · have hvm : ¬ v < 0 ∧ v ≤ m 63 50 := by rw [e50]; exact hv
    by_cases h : m 2 10 = 0
    · have h' : m 63 24 = 0 := by rw [← inv.2.2.1]; exact h
      exact ⟨fun _ => ⟨fun _ => H _ m rfl hK (fun Q2 h2 => ⟨fun _ => ⟨fun _ => h2 m rfl (gl_I_up inv), fun z => absurd h' z⟩, fun z => absurd hvm z⟩), fun z => absurd h z⟩, fun z => absurd hv z⟩
    obtain ⟨G, J⟩ := gl_J_of inv h
    obtain ⟨hG, hC, hD, h24, _, ht, pl, nm, rl, _⟩ := gl_J_p J
    have t0 := ht.1
    have t8 := ht.2.1
    have tx := J.2.2.2.2.2.2.1.2.1
    have g9 := J.2.2.2.2.2.2.1.2.2.1.2.1.1
    refine ⟨fun _ => ⟨fun z => absurd z h, fun _ => ⟨by omega, ?_⟩⟩, fun z => absurd hv z⟩
    obtain ⟨m0, hm0⟩ : ∃ m0, m0 = gh_u m 26 3 (m 26 3 - v) := ⟨_, rfl⟩
    rw [← hm0]
    have x0 : gx [26] m m0 := by
      rw [hm0]
      exact gx_one _ _ _ _
    have s26 : m0 26 3 = m 26 3 - v := by
      rw [hm0, gh_u_s]
    clear hm0
    refine gl_changed (K := K) (G := G) (by omega) (by omega) (by rw [x0 36 (by decide)]; exact g9) (fun m2 x1 k30 g9' bits r7 e41 e11 p47 => ?_)
    rw [x0 36 (by decide)] at bits r7
    rw [x0 41 (by decide)] at e41 e11
    have x12 : gx [26, 30, 36, 41, 47] m m2 := gx_t (gx_sub x0 (by decide)) (gx_sub x1 (by decide))
    have q26 : m2 26 3 = m 26 3 - v := by rw [x1 26 (by decide)]; exact s26
    refine H _ m2 (x12 1 (by decide)) (by rw [x12 0 (by decide)]; exact hK) (fun Q2 h2 => ?_)
    unfold w_Model_back w_Model_changed
    rw [x12 63 (by decide), e50]
    refine ⟨fun _ => ⟨fun z => absurd z h24, fun _ => ⟨by omega, ?_⟩⟩, fun z => absurd hv z⟩
    obtain ⟨m3, hm3⟩ : ∃ m3, m3 = gh_u (gh_u (gh_u (gh_u (gh_u m2 63 50 (m 26 3 - v)) 63 52 0) 63 61 0) 63 68 0) 63 70 0 := ⟨_, rfl⟩
    (try dsimp only)
    rw [← hm3]
    have x3 : gx [63] m2 m3 := by
      rw [hm3]
      exact gx_u (gx_u (gx_u (gx_u (gx_u gx_rf (by decide)) (by decide)) (by decide)) (by decide)) (by decide)
    have o63 : ∀ y, y ≠ 50 → y ≠ 52 → y ≠ 61 → y ≠ 68 → y ≠ 70 → m3 63 y = m 63 y := fun y y1 y2 y3 y4 y5 => by
      rw [hm3, gh_u_i y5, gh_u_i y4, gh_u_i y3, gh_u_i y2, gh_u_i y1, x12 63 (by decide)]
    have s50 : m3 63 50 = m 26 3 - v := by
      rw [hm3, gh_u_i (by decide), gh_u_i (by decide), gh_u_i (by decide), gh_u_i (by decide), gh_u_s]
    have s52 : m3 63 52 = 0 := by
      rw [hm3, gh_u_i (by decide), gh_u_i (by decide), gh_u_i (by decide), gh_u_s]
    have s61 : m3 63 61 = 0 := by
      rw [hm3, gh_u_i (by decide), gh_u_i (by decide), gh_u_s]
    have s68 : m3 63 68 = 0 := by
      rw [hm3, gh_u_i (by decide), gh_u_s]
    clear hm3
    have x13 : gx [26, 30, 36, 41, 47, 63] m m3 := gx_t (gx_sub x12 (by decide)) (gx_sub x3 (by decide))
    have g26 : m3 26 3 = m 26 3 - v := by rw [x3 26 (by decide)]; exact q26
    have g27 := x13 27 (by decide)
    have g96 := x13 96 (by decide)
    rw [s50, ← q26]
    have tx3 : gl_tx m3 := by
      refine ⟨⟨by omega, by omega, fun k k0 k1 => ?_⟩, by rw [s50, g26], by omega, by omega, fun k k0 k1 => ?_⟩
      · rw [g27]
        exact tx.1.2.2 k k0 (by omega)
      · rw [g27, g96]
        exact tx.2.2.2.2 k k0 (by omega)
    refine h2 m3 (x13 1 (by decide)) (gl_newtext (c := m 26 3 - v) J (fun a ha => x13 a (fun z => by
      simp only [List.mem_cons, List.not_mem_nil, or_false] at z
      omega)) (fun y hy => o63 y (by omega) (by omega) (by omega) (by omega) (by omega)) tx3 (by omega) (by omega) (by omega) (fun p p0 p1 => by rw [g27]) (by rw [x3 30 (by decide)]; exact k30) (by rw [x3 36 (by decide)]; exact g9') (fun i i0 => by rw [x3 36 (by decide)]; exact bits i i0) (by rw [x3 36 (by decide)]; exact r7) (x13 37 (by decide)) (x13 39 (by decide)) (x13 0 (by decide)) (x13 42 (by decide)) (x13 118 (by decide)) (x13 119 (by decide)) (fun x xn => by rw [x3 41 (by decide)]; exact e41 x xn) (by rw [x3 41 (by decide)]; exact e11) (by rw [x3 47 (by decide)]; exact p47) s68 (x13 58 (by decide)) s52 s61 (o63 64 (by decide) (by decide) (by decide) (by decide) (by decide)) (x13 106 (by decide)))
  · have hvm : ¬ (¬ v < 0 ∧ v ≤ m 63 50) := by rw [e50]; exact hv
    exact ⟨fun z => absurd z hv, fun _ => H _ m rfl hK (fun Q2 h2 => ⟨fun z => absurd z hvm, fun _ => h2 m rfl (gl_I_up inv)⟩)⟩
