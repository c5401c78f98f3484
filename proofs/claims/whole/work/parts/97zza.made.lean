/-! A TEXT IS MADE -/
/-- scratch of making alone has changed -/
theorem gl_I_t {K b : Int} {m m2 : gh_M} (e : ∀ a, a ≠ 26 → a ≠ 28 → a ≠ 29 → a ≠ 63 → a ≠ 117 → m2 a = m a) (e26 : m2 26 3 = m 26 3) (o : ∀ y, y ≠ 82 → y ≠ 83 → m2 63 y = m 63 y) (inv : gl_I K b m) : gl_I K b m2 := by
  obtain ⟨i1, i2, i3, i4, i5, i6, G, ⟨z, t, fo⟩, al⟩ := inv
  have c := fun a (p : a ≠ 26 ∧ a ≠ 28 ∧ a ≠ 29 ∧ a ≠ 63 ∧ a ≠ 117) => e a p.1 p.2.1 p.2.2.1 p.2.2.2.1 p.2.2.2.2
  refine ⟨?_, by rw [c 5 (by decide), o 2 (by decide) (by decide), o 3 (by decide) (by decide)]; exact i2, by rw [c 2 (by decide), o 24 (by decide) (by decide)]; exact i3, by rw [c 41 (by decide), o 64 (by decide) (by decide)]; exact i4, by rw [c 106 (by decide), o 64 (by decide) (by decide)]; exact i5, by rw [c 36 (by decide), c 2 (by decide), e26, o 50 (by decide) (by decide)]; exact i6, G, ⟨z, t, ?_⟩, fun y => ?_⟩
  · unfold gl_tp at i1 ⊢
    rw [c 3 (by decide), c 4 (by decide), c 64 (by decide), o 1 (by decide) (by decide)]
    exact i1
  · unfold gk_fo gk_mem gk_ue at fo ⊢
    rw [c 0 (by decide), c 41 (by decide), c 42 (by decide), c 118 (by decide), c 119 (by decide)]
    exact fo
  · rw [c 2 (by decide)] at y
    obtain ⟨a0, a1, a2, ⟨b1, b2, b3, b5⟩, a4, a5, a6⟩ := al y
    have c20 := c 20 (by decide)
    have c21 := c 21 (by decide)
    have c27 := c 27 (by decide)
    refine ⟨gl_c4_x (c 0 (by decide)) e26 c27 (c 41 (by decide)) (c 42 (by decide)) (c 118 (by decide)) (c 119 (by decide)) a0, gl_gr_x (fun a p q => c a (by omega)) (fun a p q => c a (by omega)) (fun y hy => o y (by omega) (by omega)) a1, gl_tx_x e26 c27 (c 96 (by decide)) (o 50 (by decide) (by decide)) a2, ⟨gl_c1_x c20 e26 c27 (by rw [c 30 (by decide)]) (fun a p q => c a (by omega)) b1, gl_c2_x c21 e26 c27 (by rw [c 36 (by decide)]) (c 37 (by decide)) b2, gl_c3_x c20 c21 e26 c27 (by rw [c 36 (by decide)]) (c 39 (by decide)) b3, gl_c5_x c20 (c 58 (by decide)) b5⟩, gl_m1_x c20 e26 c27 (c 82 (by decide)) (o 52 (by decide) (by decide)) (fun a p q => c a (by omega)) a4, gl_m2_x e26 c27 (o 61 (by decide) (by decide)) (o 64 (by decide) (by decide)) (c 105 (by decide)) (c 106 (by decide)) a5, gl_pk_x (fun y _ => by rw [c 47 (by decide)]) (c 48 (by decide)) (fun y hy => o y (by omega) (by omega)) (c 109 (by decide)) a6⟩
theorem gl_made {K b : Int} {m : gh_M} {Q1 : Int → gh_M → Prop} {v : Int} (inv : gl_I K b m) (H : ∀ r m1, m1 1 = m 1 → m1 0 3 = K → (∀ Q2 : Int → gh_M → Prop, (∀ m2, m2 1 = m 1 → gl_I K (b + 1) m2 → Q2 r m2) → w_Model_made v m1 Q2) → Q1 r m1) : w_House_made v m Q1 := by
  have hK := gl_I_K inv
  by_cases hv : ¬ v < 0 ∧ v < 65536
  · have hvm : ¬ v < 0 ∧ v ≤ 65535 := ⟨hv.1, by omega⟩
    by_cases h : m 2 10 = 0
    · have h' : m 63 24 = 0 := by rw [← inv.2.2.1]; exact h
      exact ⟨fun _ => ⟨fun _ => H _ m rfl hK (fun Q2 h2 => ⟨fun _ => ⟨fun _ => h2 m rfl (gl_I_up inv), fun z => absurd h' z⟩, fun z => absurd hvm z⟩), fun z => absurd h z⟩, fun z => absurd hv z⟩
    obtain ⟨G, J⟩ := gl_J_of inv h
    obtain ⟨hG, hC, hD, h24, e50, ht, pl, nm, rl, _⟩ := gl_J_p J
    have t0 := ht.1
    have t8 := ht.2.1
    have tx := J.2.2.2.2.2.2.1.2.1
    have g9 := J.2.2.2.2.2.2.1.2.2.1.2.1.1
    have g := J.2.2.2.2.2.2.1.1
    have gs := gl_s g
    obtain ⟨_, _, _, r1, r2, _, _, f, _, mf⟩ := g
    obtain ⟨_, ⟨l1, l2, l3⟩, _, ⟨fu, fu'⟩, _⟩ := f
    have hUS : ∀ r, 0 ≤ r → r < gm_R G → (gb (m 20 5) r ↔ gm_lr G (m 21) r 0 < 16777216) := fun r r0 r1 => (fu' r r0).trans ⟨fun y => y.2, fun y => ⟨r1, y⟩⟩
    -- the model's drawing, behind what the class leaves
    have draw : ∀ (m1 : gh_M) (Q3 : Int → gh_M → Prop), (∀ a, 63 ≤ a → a ≤ 117 → m1 a = m a) → m 21 0 < 16777216 → (∀ (m4 : gh_M) (tc : Int) (tr : Int → Int), gz_good G (gb (m 20 5)) v tc tr → gx [63, 117] m1 m4 → (∀ y, y ≠ 82 → y ≠ 83 → m4 63 y = m 63 y) → 0 ≤ tc → tc ≤ 8 → (∀ x, 0 ≤ x → x < tc → m4 117 x = tr x ∧ 0 ≤ tr x ∧ tr x < 26) → Q3 tc m4) → (∀ m4 : gh_M, gz_bad G (gb (m 20 5)) v → gx [63, 117] m1 m4 → (∀ y, y ≠ 82 → y ≠ 83 → m4 63 y = m 63 y) → Q3 (-1) m4) → w_Model_drawText (gh_u m1 63 83 v) Q3 := by
      intro m1 Q3 e e0 q1 q2
      have x0 : gx [63] m1 (gh_u m1 63 83 v) := gx_one _ _ _ _
      have o0 : ∀ y, y ≠ 83 → gh_u m1 63 83 v 63 y = m 63 y := fun y yn => by rw [gh_u_i yn, e 63 (by decide) (by decide)]
      have hD0 : gm_D (gh_u m1 63 83 v) G := by
        unfold gm_D at hD ⊢
        rw [o0 26 (by decide), o0 27 (by decide), x0 79 (by decide), x0 80 (by decide), x0 81 (by decide), e 79 (by decide) (by decide), e 80 (by decide) (by decide), e 81 (by decide) (by decide)]
        exact hD
      refine gz_drawText hG hD0 (by rw [x0 77 (by decide), x0 78 (by decide), e 77 (by decide) (by decide), e 78 (by decide) (by decide)]; exact r2) (by rw [x0 83 (by decide), e 83 (by decide) (by decide)]; exact mf.2.2.1) l1 l2 l3 hUS e0 (gh_u_s _ _ _ _) (by omega) hv.2 (fun m4 tc tr gd x4 o4 tc0 tc8 hx => q1 m4 tc tr gd (gx_t (gx_sub x0 (by decide)) x4) (fun y y1 y2 => by rw [o4 y y1 y2, o0 y y2]) tc0 tc8 hx) (fun m4 bd x4 o4 => q2 m4 bd (gx_t (gx_sub x0 (by decide)) x4) (fun y y1 y2 => by rw [o4 y y1 y2, o0 y y2]))
    refine ⟨fun _ => ⟨fun z => absurd z h, fun _ => gz_compose hG hC r1 J.2.2.2.2.2.2.1.1.2.2.2.2.2.2.2.1 (by omega) hv.2 (fun no => ⟨fun _ => ?_, fun z => absurd rfl z⟩) (fun m1 tc tr e0 gd x1 o1 s26 tc0 tc8 s27 => ⟨fun z => absurd z (by decide), fun _ => ?_⟩) (fun m1 e0 bd x1 o1 => ⟨fun _ => ?_, fun z => absurd rfl z⟩)⟩, fun z => absurd hv z⟩
    · refine H _ m rfl hK (fun Q2 h2 => ⟨fun _ => ⟨fun z => absurd z h24, fun _ => ⟨fun y m1 => y = -1 ∧ gx [63] m m1 ∧ ∀ y, y ≠ 83 → m1 63 y = m 63 y, fun y m1 ⟨hy, x1, o1⟩ => ⟨fun _ => ?_, fun z => absurd hy z⟩, fun z => absurd (gs.mp z) no, fun _ => ⟨rfl, gx_one _ _ _ _, fun y yn => gh_u_i yn⟩⟩⟩, fun z => absurd hvm z⟩)
      exact h2 m1 (x1 1 (by decide)) (gl_I_t (fun a p q r s t => x1 a (fun z => s (List.mem_singleton.mp z))) (by rw [x1 26 (by decide)]) (fun y _ y2 => o1 y y2) (gl_I_up inv))
    · -- a text on both sides
      refine gl_changed (K := K) (G := G) (by decide) (by decide) (by rw [x1 36 (by decide)]; exact g9) (fun m2 x2 k30 g9' bits r7 e41 e11 p47 => ?_)
      rw [x1 36 (by decide)] at bits r7
      rw [x1 41 (by decide)] at e41 e11
      have x12 : gx [26, 27, 28, 29, 30, 36, 41, 47] m m2 := gx_t (gx_sub x1 (by decide)) (gx_sub x2 (by decide))
      have q26 : m2 26 3 = tc := by rw [x2 26 (by decide)]; exact s26
      have q27 := x2 27 (by decide)
      refine H _ m2 (x12 1 (by decide)) (by rw [x12 0 (by decide)]; exact hK) (fun Q2 h2 => ?_)
      refine ⟨fun _ => ⟨fun z => absurd (by rw [← x12 63 (by decide)]; exact z) h24, fun _ => ⟨fun y m4 => y = tc ∧ gx [63, 117] m2 m4 ∧ (∀ y, y ≠ 82 → y ≠ 83 → m4 63 y = m 63 y) ∧ ∀ x, 0 ≤ x → x < tc → m4 117 x = tr x, fun y m4 ⟨hy, x4, o4, s117⟩ => ⟨fun z => by omega, fun _ => ?_⟩, fun _ => ?_, fun z => absurd (by rw [x12 82 (by decide)]; exact gs.mpr e0) z⟩⟩, fun z => absurd hvm z⟩
      · rw [hy]
        refine ⟨fun k m5 => 0 ≤ k ∧ k ≤ tc ∧ gx [63, 96, 117] m2 m5 ∧ (∀ y, y ≠ 50 → y ≠ 82 → y ≠ 83 → m5 63 y = m 63 y) ∧ m5 63 50 = tc ∧ (∀ x, 0 ≤ x → x < tc → m5 117 x = tr x) ∧ ∀ x, 0 ≤ x → x < k → m5 96 x = tr x, fun k _ => (20 - k).toNat, ⟨Int.le_refl _, tc0, gx_u (gx_sub x4 (by decide)) (by decide), fun y y1 y2 y3 => by rw [gh_u_i y1]; exact o4 y y2 y3, gh_u_s _ _ _ _, fun x x0 x1' => by rw [gh_u_a (by decide)]; exact s117 x x0 x1', fun x a c => by omega⟩, ?_⟩
        rintro k m5 ⟨k0, k1, x5, o5, s50, s5, w96⟩
        unfold f_Model_made_66
        rw [s50]
        refine ⟨fun lt => ⟨k0, by omega, k0, by omega, by omega, ⟨by omega, by omega, gx_u x5 (by decide), fun y y1 y2 y3 => by rw [gh_u_a (by decide)]; exact o5 y y1 y2 y3, by rw [gh_u_a (by decide)]; exact s50, fun x x0 x1' => by rw [gh_u_a (by decide)]; exact s5 x x0 x1', fun x x0 x1' => ?_⟩, by (try dsimp only); omega⟩, fun ge => ?_⟩
        · by_cases q : x = k
          · rw [q, gh_u_s]
            exact s5 k k0 lt
          · rw [gh_u_i q]
            exact w96 x x0 (by omega)
        · have ek : k = tc := by omega
          rw [ek] at w96
          unfold w_Model_changed
          obtain ⟨m6, hm6⟩ : ∃ m6, m6 = gh_u (gh_u (gh_u (gh_u m5 63 52 0) 63 61 0) 63 68 0) 63 70 0 := ⟨_, rfl⟩
          (try dsimp only)
          rw [← hm6]
          have x6 : gx [63] m5 m6 := by
            rw [hm6]
            exact gx_u (gx_u (gx_u (gx_u gx_rf (by decide)) (by decide)) (by decide)) (by decide)
          have o63 : ∀ y, y ≠ 52 → y ≠ 61 → y ≠ 68 → y ≠ 70 → m6 63 y = m5 63 y := fun y y2 y3 y4 y5 => by
            rw [hm6, gh_u_i y5, gh_u_i y4, gh_u_i y3, gh_u_i y2]
          have s52 : m6 63 52 = 0 := by
            rw [hm6, gh_u_i (by decide), gh_u_i (by decide), gh_u_i (by decide), gh_u_s]
          have s61 : m6 63 61 = 0 := by
            rw [hm6, gh_u_i (by decide), gh_u_i (by decide), gh_u_s]
          have s68 : m6 63 68 = 0 := by
            rw [hm6, gh_u_i (by decide), gh_u_s]
          clear hm6
          have x16 : gx [26, 27, 28, 29, 30, 36, 41, 47, 63, 96, 117] m m6 := gx_t (gx_sub x12 (by decide)) (gx_t (gx_sub x5 (by decide)) (gx_sub x6 (by decide)))
          have x26 : gx [63, 96, 117] m2 m6 := gx_t x5 (gx_sub x6 (by decide))
          have g26 : m6 26 3 = tc := by rw [x26 26 (by decide)]; exact q26
          have g27 : m6 27 = m1 27 := by rw [x26 27 (by decide)]; exact q27
          have g50 : m6 63 50 = tc := by rw [o63 50 (by decide) (by decide) (by decide) (by decide)]; exact s50
          have tx6 : gl_tx m6 := by
            refine ⟨⟨by omega, by omega, fun k k0 k1 => ?_⟩, by rw [g50, g26], by omega, by omega, fun k k0 k1 => ?_⟩
            · rw [g27, (s27 k k0 (by omega)).1]
              exact (s27 k k0 (by omega)).2
            · rw [g27, x6 96 (by decide), w96 k k0 (by omega), (s27 k k0 (by omega)).1]
              exact ⟨rfl, (s27 k k0 (by omega)).2⟩
          rw [g50, ← q26]
          refine h2 m6 (x16 1 (by decide)) (gl_newtext (c := 0) J (fun a ha => x16 a (fun z => by
            simp only [List.mem_cons, List.not_mem_nil, or_false] at z
            omega)) (fun y hy => by rw [o63 y (by omega) (by omega) (by omega) (by omega)]; exact o5 y (by omega) (by omega) (by omega)) tx6 (by decide) t0 (by omega) (fun p p0 p1 => by omega) (by rw [x26 30 (by decide)]; exact k30) (by rw [x26 36 (by decide)]; exact g9') (fun i i0 => by rw [x26 36 (by decide)]; exact bits i i0) (by rw [x26 36 (by decide)]; exact r7) (x16 37 (by decide)) (x16 39 (by decide)) (x16 0 (by decide)) (x16 42 (by decide)) (x16 118 (by decide)) (x16 119 (by decide)) (fun x xn => by rw [x26 41 (by decide)]; exact e41 x xn) (by rw [x26 41 (by decide)]; exact e11) (by rw [x26 47 (by decide)]; exact p47) s68 (x16 58 (by decide)) s52 s61 (by rw [o63 64 (by decide) (by decide) (by decide) (by decide)]; exact o5 64 (by decide) (by decide) (by decide)) (x16 106 (by decide)))
      · refine draw m2 _ (fun a p q => x12 a (fun z => by
          simp only [List.mem_cons, List.not_mem_nil, or_false] at z
          omega)) e0 (fun m4 tc' tr' gd' x4 o4 tc0' tc8' s4 => ?_) (fun m4 bd _ _ => absurd (gz_not gd bd) id)
        obtain ⟨q1, q2⟩ := gz_good_u gd gd'
        refine ⟨q1.symm, x4, o4, fun x x0 x1' => ?_⟩
        rw [(s4 x x0 (by omega)).1]
        exact (q2 x x0 x1').symm
    · have e26 : m1 26 3 = m 26 3 := o1 3 (by decide) (by decide) (by decide)
      refine H _ m1 (x1 1 (by decide)) (by rw [x1 0 (by decide)]; exact hK) (fun Q2 h2 => ?_)
      refine ⟨fun _ => ⟨fun z => absurd (by rw [← x1 63 (by decide)]; exact z) h24, fun _ => ⟨fun y m4 => y = -1 ∧ gx [63, 117] m1 m4 ∧ ∀ y, y ≠ 82 → y ≠ 83 → m4 63 y = m 63 y, fun y m4 ⟨hy, x4, o4⟩ => ⟨fun _ => ?_, fun z => absurd hy z⟩, fun _ => ?_, fun z => absurd (by rw [x1 82 (by decide)]; exact gs.mpr e0) z⟩⟩, fun z => absurd hvm z⟩
      · have x14 : gx [26, 28, 29, 63, 117] m m4 := gx_t (gx_sub x1 (by decide)) (gx_sub x4 (by decide))
        exact h2 m4 (x14 1 (by decide)) (gl_I_t (fun a p q r s t => x14 a (fun z => by
          simp only [List.mem_cons, List.not_mem_nil, or_false] at z
          omega)) (by rw [x4 26 (by decide)]; exact e26) o4 (gl_I_up inv))
      · exact draw m1 _ (fun a p q => x1 a (fun z => by
          simp only [List.mem_cons, List.not_mem_nil, or_false] at z
          omega)) e0 (fun m4 tc' tr' gd' _ _ _ _ _ => absurd (gz_not gd' bd) id) (fun m4 _ x4 o4 => ⟨rfl, x4, o4⟩)
  · have hvm : ¬ (¬ v < 0 ∧ v ≤ 65535) := fun z => hv ⟨z.1, by omega⟩
    exact ⟨fun z => absurd z hv, fun _ => H _ m rfl hK (fun Q2 h2 => ⟨fun z => absurd z hvm, fun _ => h2 m rfl (gl_I_up inv)⟩)⟩
