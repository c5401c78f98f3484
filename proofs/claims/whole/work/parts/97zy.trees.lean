/-! TREES, A TREE PICKED -/
theorem gl_c4_of {K : Int} {G : gm_G} {m : gh_M} (fo : gk_fo K G (m 26 3) (m 27) m) : gl_c4 K G m := ⟨fo, fun r => ⟨0, 0, fun y n h n0 n1 h0 h1 => ⟨(fo.2.2.2.2.2.2 r).2.2 y n h n0 n1 h0 h1, fun z => absurd z (by decide)⟩⟩⟩
theorem gl_pk0 {K : Int} {G : gm_G} {z : Int} {t : Int → Int} {m : gh_M} (fo : gk_fo K G z t m) (h : z ≤ m 41 11) : gk_pk K G z t 0 0 m := ⟨fo, h, fun _ _ _ _ _ _ _ z => absurd z (by decide)⟩
theorem gl_mem_K {K : Int} {m : gh_M} (h : gk_mem K m) : m 0 3 = K := by
  rcases h with q | q
  · exact q.1
  · exact q.1
theorem gl_fa {G : gm_G} {m : gh_M} (g : gl_gr G m) : gk_fa G (m 20 1) (m 24) := ⟨g.2.2.2.2.2.2.2.1.1.2.1, g.2.2.2.2.2.2.2.2.1.1.1, g.2.2.2.2.2.2.2.2.1.1.2⟩
theorem gl_ctreesOf {K u w : Int} {G : gm_G} {A m : gh_M} {n i k : Int} {Q : Int → gh_M → Prop} (j : gl_J K u w G A m) (hu : u ≤ 2000000) (ch : gt_ch G m) (hn : ¬ n < 0 ∧ n < gm_N G) (hi : ¬ i < 0) (ik : i ≤ k) (hk : k ≤ A 26 3) (H : ∀ m1, gl_J K (u + 81) w G A m1 → gt_ch G m1 → k ≤ m1 41 11 → Q (gk_C G (A 26 3) (A 27) n i k (fun _ => False)) m1) : w_Forest_treesOf n i k m Q := by
  obtain ⟨hG, hC, hD, h24, e50, ht, pl, nm, rl, e26, e27, e20, e21⟩ := gl_J_p j
  have j0 := j
  obtain ⟨j1, j2, j3, j4, ⟨j5, j5'⟩, j6, ⟨a1, a2, ⟨b1, b2, b3, b5⟩, a4, a5, a6⟩, j8, j9, _⟩ := j
  have cx : gk_cx G (m 26 3) (m 27) (m 24) m := ⟨hC, ht, ch.1, a1.2.2.2.1, rfl, rfl, rfl⟩
  refine gk_treesOf hG (gl_fa a1) (by omega) hn.2 (by omega) ik (by rw [e26]; exact hk) cx j6.1 (by omega) (fun m1 x1 o1 fo l11 l9 _ => ?_)
  have e26' : m1 26 3 = m 26 3 := by rw [x1 26 (by decide)]
  have f20 := x1 20 (by decide)
  have f21 := x1 21 (by decide)
  have f27 := x1 27 (by decide)
  have J1 : gl_J K (u + 81) w G A m1 := gl_J_q (fun a h => x1 a (fun z => by
    simp only [List.mem_cons, List.not_mem_nil, or_false] at z
    omega)) (fun y _ => by rw [x1 63 (by decide)]) (by omega) (by rw [x1 63 (by decide)]; exact j5') (gl_c1_x f20 e26' f27 (by rw [x1 30 (by decide)]) (fun a p q => x1 a (fun z => by
    simp only [List.mem_cons, List.not_mem_nil, or_false] at z
    omega)) b1) (gl_c2_x f21 e26' f27 (by rw [x1 36 (by decide)]) (x1 37 (by decide)) b2) (gl_c3_x f20 f21 e26' f27 (by rw [x1 36 (by decide)]) (x1 39 (by decide)) b3) (gl_c4_of (by rw [e26', f27]; exact fo)) (gl_c5_x f20 (x1 58 (by decide)) b5) (gl_m1_x f20 e26' f27 (x1 82 (by decide)) (by rw [x1 63 (by decide)]) (fun a p q => x1 a (fun z => by
    simp only [List.mem_cons, List.not_mem_nil, or_false] at z
    omega)) a4) (gl_m2_x e26' f27 (by rw [x1 63 (by decide)]) (by rw [x1 63 (by decide)]) (x1 105 (by decide)) (x1 106 (by decide)) a5) (fun y _ => by rw [x1 47 (by decide)]) (x1 48 (by decide)) (fun y _ => by rw [x1 63 (by decide)]) (x1 109 (by decide)) j0
  have ch1 : gt_ch G m1 := by
    unfold gt_ch gt_full gt_tab at ch ⊢
    rw [f20, e26', f27, x1 31 (by decide), x1 32 (by decide), x1 34 (by decide), x1 35 (by decide)]
    exact ch
  rw [e26, e27]
  exact H m1 J1 ch1 l11
theorem gl_mtreesOf {K u w : Int} {G : gm_G} {A m : gh_M} {n i k : Int} {Q : Int → gh_M → Prop} (j : gl_J K u w G A m) (hw : w ≤ 2000000000) (hn : ¬ n < 0 ∧ n < gm_N G) (hi : ¬ i < 0) (ik : i ≤ k) (hk : k ≤ A 26 3) (H : ∀ m1, gl_J K u (w + 3200000) G A m1 → Q (gk_C G (A 26 3) (A 27) n i k (fun _ => False)) m1) : w_Model_countTrees n i k m Q := by
  obtain ⟨hG, hC, hD, h24, e50, ht, pl, nm, rl, e26, e27, e20, e21⟩ := gl_J_p j
  have j0 := j
  obtain ⟨j1, j2, j3, j4, ⟨j5, j5'⟩, j6, ⟨a1, a2, ⟨b1, b2, b3, b5⟩, a4, a5, a6⟩, j8, j9, _⟩ := j
  obtain ⟨_, _, _, _, r2, _, _, f, _, mf⟩ := a1
  refine gk_mcount hG f.1.2.1 hD a2.2 mf.2.2.1 Iff.rfl a4 r2 a5 (by omega) hn.2 (by omega) ik (by rw [e26]; exact hk) (by omega) (fun m1 x1 o1 n52 n61 _ _ mx co l64 _ => ?_)
  have e26' : m1 26 3 = m 26 3 := by rw [x1 26 (by decide)]
  have f20 := x1 20 (by decide)
  have f21 := x1 21 (by decide)
  have f27 := x1 27 (by decide)
  have J1 : gl_J K u (w + 3200000) G A m1 := gl_J_q (fun a h => x1 a (fun z => by
    simp only [List.mem_cons, List.not_mem_nil, or_false] at z
    omega)) (fun y hy => o1 y (by omega) (by omega) (by omega) (by omega)) (by rw [x1 41 (by decide)]; exact j5) (by omega) (gl_c1_x f20 e26' f27 (by rw [x1 30 (by decide)]) (fun a p q => x1 a (fun z => by
    simp only [List.mem_cons, List.not_mem_nil, or_false] at z
    omega)) b1) (gl_c2_x f21 e26' f27 (by rw [x1 36 (by decide)]) (x1 37 (by decide)) b2) (gl_c3_x f20 f21 e26' f27 (by rw [x1 36 (by decide)]) (x1 39 (by decide)) b3) (gl_c4_x (x1 0 (by decide)) e26' f27 (x1 41 (by decide)) (x1 42 (by decide)) (x1 118 (by decide)) (x1 119 (by decide)) j6) (gl_c5_x f20 (x1 58 (by decide)) b5) (fun _ => by rw [e26', f27, f20, x1 82 (by decide)]; exact mx.2.2.1) (by unfold gl_m2; rw [e26', f27]; exact co) (fun y _ => by rw [x1 47 (by decide)]) (x1 48 (by decide)) (fun y hy => o1 y (by omega) (by omega) (by omega) (by omega)) (x1 109 (by decide)) j0
  rw [e26, e27]
  exact H m1 J1
theorem gl_trees {K b : Int} {m : gh_M} {Q1 : Int → gh_M → Prop} {n i k : Int} (inv : gl_I K b m) (b0 : 0 ≤ b) (b1 : b ≤ 511) (H : ∀ r m1, m1 1 = m 1 → m1 0 3 = K → (∀ Q2 : Int → gh_M → Prop, (∀ m2, m2 1 = m 1 → gl_I K (b + 1) m2 → Q2 r m2) → w_Model_trees n i k m1 Q2) → Q1 r m1) : w_House_trees n i k m Q1 := by
  have hK := gl_I_K inv
  by_cases h : m 2 10 = 0
  · have h' : m 63 24 = 0 := by rw [← inv.2.2.1]; exact h
    refine ⟨True, fun _ => ⟨fun c => ⟨fun _ => ?_, fun z => absurd h z⟩, fun c => ?_⟩, fun _ => trivial, fun z => absurd (Or.inl h) z⟩
    · exact H _ m rfl hK (fun Q2 h2 => ⟨True, fun _ => ⟨fun _ => ⟨fun _ => h2 m rfl (gl_I_up inv), fun z => absurd h' z⟩, fun z => absurd c z⟩, fun z => absurd h' z, fun _ => trivial, fun z => absurd (Or.inl h') z⟩)
    · exact H _ m rfl hK (fun Q2 h2 => ⟨True, fun _ => ⟨fun z => absurd z c, fun _ => h2 m rfl (gl_I_up inv)⟩, fun z => absurd h' z, fun _ => trivial, fun z => absurd (Or.inl h') z⟩)
  obtain ⟨G, J⟩ := gl_J_of inv h
  obtain ⟨hG, hC, hD, h24, e50, ht, pl, nm, rl, e26, e27, e20, e21⟩ := gl_J_p J
  have hN0 := hG.1
  have hN := hG.2.1
  have kN : k_Model_isName n m := fun _ => by
    rw [hD.1]
    omega
  by_cases ok : p_House_isName n m ∧ p_House_isPlace i m ∧ p_House_isPlace k m
  · have okm : m 63 24 = 0 ∨ p_Model_isName n m ∧ p_Model_isPlace i m ∧ p_Model_isPlace k m := Or.inr ⟨nm n ⟨ok.1.1, by rw [← hC.1]; exact ok.1.2⟩, pl i ok.2.1, pl k ok.2.2⟩
    have hn : ¬ n < 0 ∧ n < gm_N G := ⟨ok.1.1, by rw [← hC.1]; exact ok.1.2⟩
    refine ⟨True, fun _ => ⟨fun c => ⟨fun z => absurd z h, fun _ => ?_⟩, fun c => ?_⟩, fun _ => trivial, fun z => absurd (Or.inr ok) z⟩
    · refine gl_refresh J (fun m1 J1 ch x1 => gl_ctreesOf J1 (by omega) ch hn ok.2.1.1 c ok.2.2.2 (fun m2 J2 ch2 l11 => ?_))
      have e24 := (gl_J_p J2).2.2.2.1
      refine H _ m2 J2.2.2.2.2.2.2.2.2.1 (gl_J_K J2) (fun Q2 h2 => ?_)
      obtain ⟨_, _, hD2, _, _, _, pl2, nm2, _, f26, _⟩ := gl_J_p J2
      refine ⟨True, fun _ => ⟨fun _ => ⟨fun z => absurd z e24, fun _ => ?_⟩, fun z => absurd c z⟩, fun _ => fun _ => by rw [hD2.1]; omega, fun _ => trivial, fun z => absurd (Or.inr ⟨nm2 n hn, pl2 i (by rw [f26]; exact ok.2.1), pl2 k (by rw [f26]; exact ok.2.2)⟩) z⟩
      refine gl_mtreesOf J2 (by omega) hn ok.2.1.1 c ok.2.2.2 (fun m3 J3 => ?_)
      have e : (if gk_C G (m 26 3) (m 27) n i k (fun _ => False) ≤ 999999999999999999 then gk_C G (m 26 3) (m 27) n i k (fun _ => False) else -2) = (if gk_C G (m 26 3) (m 27) n i k (fun _ => False) < 1000000000000000000 then gk_C G (m 26 3) (m 27) n i k (fun _ => False) else -2) := by
        by_cases q : gk_C G (m 26 3) (m 27) n i k (fun _ => False) < 1000000000000000000
        · rw [if_pos q, if_pos (by omega)]
        · rw [if_neg q, if_neg (by omega)]
      rw [e]
      exact h2 m3 J3.2.2.2.2.2.2.2.2.1 (gl_I_of (gl_J_w (by omega) (by omega) J3))
    · exact H _ m rfl hK (fun Q2 h2 => ⟨True, fun _ => ⟨fun z => absurd z c, fun _ => h2 m rfl (gl_I_up inv)⟩, fun _ => kN, fun _ => trivial, fun z => absurd okm z⟩)
  · have nok : ¬ (m 63 24 = 0 ∨ p_Model_isName n m ∧ p_Model_isPlace i m ∧ p_Model_isPlace k m) := fun z => by
      rcases z with z | ⟨⟨_, z1, z2⟩, ⟨_, z3, z4⟩, ⟨_, z5, z6⟩⟩
      · exact h24 z
      · rw [e50] at z4 z6
        rw [hD.1] at z2
        exact ok ⟨⟨z1, by rw [hC.1]; omega⟩, ⟨z3, z4⟩, ⟨z5, z6⟩⟩
    refine ⟨False, fun z => False.elim z, fun z => z.elim h ok, fun _ => ?_⟩
    exact H _ m rfl hK (fun Q2 h2 => ⟨False, fun z => False.elim z, fun _ => kN, fun z => nok z, fun _ => h2 m rfl (gl_I_up inv)⟩)
theorem gl_pick {K b : Int} {m : gh_M} {Q1 : Int → gh_M → Prop} {v : Int} (inv : gl_I K b m) (b0 : 0 ≤ b) (b1 : b ≤ 511) (H : ∀ r m1, m1 1 = m 1 → m1 0 3 = K → (∀ Q2 : Int → gh_M → Prop, (∀ m2, m2 1 = m 1 → gl_I K (b + 1) m2 → Q2 r m2) → w_Model_pick v m1 Q2) → Q1 r m1) : w_House_pick v m Q1 := by
  have hK := gl_I_K inv
  by_cases hv : ¬ v < 0 ∧ v < 1000000000000000000
  · have hvm : ¬ v < 0 ∧ v ≤ 999999999999999999 := ⟨hv.1, by omega⟩
    by_cases h : m 2 10 = 0
    · have h' : m 63 24 = 0 := by rw [← inv.2.2.1]; exact h
      exact ⟨fun _ => ⟨fun _ => H _ m rfl hK (fun Q2 h2 => ⟨fun _ => ⟨fun _ => h2 m rfl (gl_I_up inv), fun z => absurd h' z⟩, fun z => absurd hvm z⟩), fun z => absurd h z⟩, fun z => absurd hv z⟩
    obtain ⟨G, J⟩ := gl_J_of inv h
    have hN0 := (gl_J_p J).1.1
    refine ⟨fun _ => ⟨fun z => absurd z h, fun _ => gl_refresh J (fun m1 J1 ch x1 => ?_)⟩, fun z => absurd hv z⟩
    have f26 := (gl_J_p J1).2.2.2.2.2.2.2.2.2.1
    have t01 := (gl_J_p J1).2.2.2.2.2.1.1
    rw [f26]
    refine gl_ctreesOf J1 (by omega) ch (n := 0) (i := 0) (by omega) (by omega) (by omega) (Int.le_refl _) (fun m2 J2 ch2 l11 => ?_)
    clear f26 t01 x1 ch J1 m1
    obtain ⟨hG, hC, hD, h24, e50, ht, pl, nm, rl, e26, e27, e20, e21⟩ := gl_J_p J2
    have J2' := J2
    obtain ⟨j1, j2, j3, j4, ⟨j5, j5'⟩, j6, ⟨a1, a2, ⟨b1', b2, b3, b5⟩, a4, a5, a6⟩, j8, j9, _⟩ := J2
    have a1' := a1
    obtain ⟨_, _, _, _, r2, _, _, f, _, mf⟩ := a1
    rw [← e26] at l11
    rw [← e26, ← e27]
    -- the model's pick, behind what the class leaves
    have mpick : ∀ (m3 : gh_M) (Q2 : Int → gh_M → Prop), gx [0, 41, 42, 43, 44, 47, 48, 49, 50, 51, 52, 53, 54, 55, 56, 57, 118, 119] m2 m3 → gk_fo K G (m2 26 3) (m2 27) m3 → m3 41 9 ≤ m2 41 9 + 300 → (gk_C G (m2 26 3) (m2 27) 0 0 (m2 26 3) (fun _ => False) ≤ v → (∀ m4 : gh_M, m4 1 = m 1 → (∀ y, m4 47 y = m3 47 y) → m4 48 = m3 48 → (∀ y, y = 68 ∨ y = 70 → m4 63 y = m3 63 y) → m4 109 = m3 109 → (gl_pk m4 → gl_I K (b + 1) m4) → Q2 (-1) m4)) → (v < gk_C G (m2 26 3) (m2 27) 0 0 (m2 26 3) (fun _ => False) → ∀ (u : Nat) (tr : Int → Int) (dp : Int), gp_run G (m2 26 3) (m2 27) v u tr dp [] → (u : Int) ≤ 300 → ∀ m4 : gh_M, m4 1 = m 1 → (∀ y, m4 47 y = m3 47 y) → m4 48 = m3 48 → m4 63 68 = u → m4 63 70 = dp → (∀ x : Int, 0 ≤ x → x < u → m4 109 x = tr x) → (gl_pk m4 → gl_I K (b + 1) m4) → Q2 u m4) → (v < gk_C G (m2 26 3) (m2 27) 0 0 (m2 26 3) (fun _ => False) → ∀ (tr : Int → Int) (dp : Int) (L : List gp_nd), gp_run G (m2 26 3) (m2 27) v 300 tr dp L → L ≠ [] → ∀ m4 : gh_M, m4 1 = m 1 → (∀ y, m4 47 y = m3 47 y) → m4 48 = m3 48 → (∀ y, y = 68 ∨ y = 70 → m4 63 y = m3 63 y) → m4 109 = m3 109 → (gl_pk m4 → gl_I K (b + 1) m4) → Q2 (-1004) m4) → w_Model_pick v m3 Q2 := by
      intro m3 Q2 x3 fo3 l9 q0 q1 q2
      have e63 := x3 63 (by decide)
      have done : ∀ (S : List Int) (m4 : gh_M), gx S m3 m4 → (∀ s, s ∈ S → s = 63 ∨ (97 ≤ s ∧ s ≤ 100) ∨ (105 ≤ s ∧ s ≤ 116)) → (∀ y, y < 52 → m4 63 y = m3 63 y) → m4 63 52 ≠ 0 → gk_mx G (m2 26 3) (m2 27) (gb (m2 20 5)) (m2 82 0 < 1000000000) m4 → gk_co G (m2 26 3) (m2 27) m4 → m4 63 64 ≤ m3 63 64 + 3200000 → gl_pk m4 → gl_I K (b + 1) m4 := by
        intro S m4 x4 hS o4 n52 mx co l64 pk
        have e4 : ∀ a, a ≠ 63 → (a < 97 ∨ (100 < a ∧ a < 105) ∨ 116 < a) → m4 a = m3 a := fun a p q => x4 a (fun z => by
          have := hS a z
          omega)
        have e3 : ∀ a, a ≠ 0 → (a < 41 ∨ (44 < a ∧ a < 47) ∨ (57 < a ∧ a < 118)) → m3 a = m2 a := fun a p q => x3 a (fun z => by
          simp only [List.mem_cons, List.not_mem_nil, or_false] at z
          omega)
        have e34 : ∀ a, a ≠ 0 → a ≠ 63 → (a < 41 ∨ (44 < a ∧ a < 47) ∨ (57 < a ∧ a < 97)) → m4 a = m2 a := fun a p q r => by rw [e4 a q (by omega), e3 a p (by omega)]
        have g26 : m4 26 3 = m2 26 3 := by rw [e34 26 (by decide) (by decide) (by decide)]
        have g20 := e34 20 (by decide) (by decide) (by decide)
        have g21 := e34 21 (by decide) (by decide) (by decide)
        have g27 := e34 27 (by decide) (by decide) (by decide)
        have fo4 : gk_fo K G (m2 26 3) (m2 27) m4 := by
          unfold gk_fo gk_mem gk_ue at fo3 ⊢
          rw [e4 0 (by decide) (by decide), e4 41 (by decide) (by decide), e4 42 (by decide) (by decide), e4 118 (by decide) (by decide), e4 119 (by decide) (by decide)]
          exact fo3
        have J4 : gl_J K (1000 * (b + 1)) (3200000 * (b + 1)) G m4 m4 := gl_J_q0 (fun a hh => e34 a (by omega) (by omega) (by omega)) (fun y hy => by rw [o4 y hy, e63]) (by rw [e4 41 (by decide) (by decide)]; omega) (by rw [e63] at l64; omega) (gl_c1_x g20 g26 g27 (by rw [e34 30 (by decide) (by decide) (by decide)]) (fun a p q => e34 a (by omega) (by omega) (by omega)) b1') (gl_c2_x g21 g26 g27 (by rw [e34 36 (by decide) (by decide) (by decide)]) (e34 37 (by decide) (by decide) (by decide)) b2) (gl_c3_x g20 g21 g26 g27 (by rw [e34 36 (by decide) (by decide) (by decide)]) (e34 39 (by decide) (by decide) (by decide)) b3) (gl_c4_of (by rw [g26, g27]; exact fo4)) (gl_c5_x g20 (e34 58 (by decide) (by decide) (by decide)) b5) (fun _ => by rw [g26, g27, g20, e34 82 (by decide) (by decide) (by decide)]; exact mx.2.2.1) (by unfold gl_m2; rw [g26, g27]; exact co) pk J2'
        exact gl_I_of J4
      have c3 : ∀ a, (57 < a ∧ a < 118) → m3 a = m2 a := fun a p => x3 a (fun z => by
        simp only [List.mem_cons, List.not_mem_nil, or_false] at z
        omega)
      have m31 : m3 1 = m 1 := by rw [x3 1 (by decide)]; exact j9
      have dt3 : gd_t m3 (m2 26 3) (m2 27) := by
        have q := a2.2
        unfold gd_t at q ⊢
        rw [e63, c3 96 (by decide)]
        exact q
      have hl3 : m3 63 52 ≠ 0 → gd_ch G (m2 26 3) (m2 27) (gb (m2 20 5)) (m2 82 0 < 1000000000) m3 := fun y => by
        rw [e63] at y
        have q := a4 y
        unfold gd_ch gd_bg at q ⊢
        rw [c3 97 (by decide), c3 98 (by decide), c3 99 (by decide), c3 100 (by decide)]
        exact q
      have co3 : gk_co G (m2 26 3) (m2 27) m3 := by
        have q := a5
        unfold gl_m2 gk_co gk_ct gk_dn gk_nd at q
        unfold gk_co gk_ct gk_dn gk_nd
        rw [e63, c3 105 (by decide), c3 106 (by decide)]
        exact q
      refine gp_mpick (U := gb (m2 20 5)) (s := m2 82 0 < 1000000000) hG (gl_fa a1') (gm_D_x x3 (by decide) hD) dt3 (by rw [c3 83 (by decide)]; exact mf.2.2.1) (by rw [c3 82 (by decide)]) hl3 (by rw [c3 77 (by decide), c3 78 (by decide)]; exact r2) co3 (by rw [e63]; omega) (by rw [e63]; exact h24) (by omega) hv.2 (fun m4 lt x4 o4 n52 _ _ _ mx co l64 => ?_) (fun m4 u tr dp lt run u3 x4 o4 n52 _ _ _ mx co l64 s68 s70 s109 => ?_) (fun m4 tr dp L lt run hL x4 o4 n52 _ _ _ mx co l64 => ?_)
      · exact q0 lt m4 (by rw [x4 1 (by decide)]; exact m31) (fun y => by rw [x4 47 (by decide)]) (x4 48 (by decide)) (fun y hy => o4 y (by omega) (by omega) (by omega) (by omega)) (x4 109 (by decide)) (done _ m4 x4 (by decide) (fun y hy => o4 y (by omega) (by omega) (by omega) (by omega)) n52 mx co l64)
      · exact q1 lt u tr dp run u3 m4 (by rw [x4 1 (by decide)]; exact m31) (fun y => by rw [x4 47 (by decide)]) (x4 48 (by decide)) s68 s70 s109 (done _ m4 x4 (by decide) (fun y hy => o4 y (by omega) (by omega) (by omega) (by omega) (by omega) (by omega) (by omega) (by omega) (by omega)) n52 mx co l64)
      · exact q2 lt tr dp L run hL m4 (by rw [x4 1 (by decide)]; exact m31) (fun y => by rw [x4 47 (by decide)]) (x4 48 (by decide)) (fun y hy => o4 y (by omega) (by omega) (by omega) (by omega) (by omega) (by omega) (by omega)) (x4 109 (by decide)) (done _ m4 x4 (by decide) (fun y hy => o4 y (by omega) (by omega) (by omega) (by omega) (by omega) (by omega) (by omega)) n52 mx co l64)
    refine ⟨fun lt => ?_, fun ge => ?_⟩
    · have cx : gk_cx G (m2 26 3) (m2 27) (m2 24) m2 := ⟨hC, ht, ch2.1, a1'.2.2.2.1, rfl, rfl, rfl⟩
      refine gp_choose hG (gl_fa a1') cx (gl_pk0 j6.1 l11) (by omega) lt (by omega) (fun m3 u tr dp ci cj run u3 x3 o3 p3 pk3 l9 s4 s5 s48 => ?_) (fun m3 tr dp ci cj L run hL x3 o3 p3 pk3 l9 => ?_)
      · refine H _ m3 (by rw [x3 1 (by decide)]; exact j9) (gl_mem_K pk3.1.1) (fun Q2 h2 => ?_)
        refine mpick m3 Q2 x3 pk3.1 l9 (fun ge => by omega) (fun _ u' tr' dp' run' u3' m4 e1 e47 e48 s68 s70 s109 fin => ?_) (fun _ tr' dp' L' run' hL' => absurd (gp_no hG run u3 run' hL') id)
        obtain ⟨q1, q2, q3⟩ := gp_same hG run run'
        rw [← q1]
        refine h2 m4 e1 (fin ⟨⟨by rw [e47, s4]; omega, by rw [e47, s4]; exact u3⟩, by rw [e47, s4, s68, q1], fun _ => by rw [e47, s5, s70, q2], fun x x0 x1 => ?_⟩)
        rw [e47, s4] at x1
        rw [e48, s48 x x0 x1, s109 x x0 (by omega)]
        exact (q3 x x0 x1).symm
      · have x3' : gx [0, 41, 42, 43, 44, 47, 48, 49, 50, 51, 52, 53, 54, 55, 56, 57, 118, 119] m2 m3 := gx_sub x3 (by decide)
        refine H _ m3 (by rw [x3 1 (by decide)]; exact j9) (gl_mem_K pk3.1.1) (fun Q2 h2 => ?_)
        refine mpick m3 Q2 x3' pk3.1 l9 (fun ge => by omega) (fun _ u' tr' dp' run' u3' => absurd (gp_no hG run' u3' run hL) id) (fun _ tr' dp' L' run' hL' m4 e1 e47 e48 e63 e109 fin => h2 m4 e1 (fin (gl_pk_x (fun y hy => by rw [e47, p3 y (by omega) (by omega)]) (by rw [e48, x3 48 (by decide)]) (fun y hy => by rw [e63 y hy, x3 63 (by decide)]) (by rw [e109, x3 109 (by decide)]) a6)))
    · refine H _ m2 j9 (gl_J_K J2') (fun Q2 h2 => ?_)
      refine mpick m2 Q2 gx_rf j6.1 (by omega) (fun _ m4 e1 e47 e48 e63 e109 fin => h2 m4 e1 (fin (gl_pk_x (fun y _ => e47 y) e48 e63 e109 a6))) (fun lt => absurd lt ge) (fun lt => absurd lt ge)
  · have hvm : ¬ (¬ v < 0 ∧ v ≤ 999999999999999999) := fun z => hv ⟨z.1, by omega⟩
    exact ⟨fun z => absurd z hv, fun _ => H _ m rfl hK (fun Q2 h2 => ⟨fun z => absurd z hvm, fun _ => h2 m rfl (gl_I_up inv)⟩)⟩
