/-! CALLS THAT ONLY TELL -/
theorem gl_I_K {K b : Int} {m : gh_M} (inv : gl_I K b m) : m 0 3 = K := by
  obtain ⟨_, _, _, _, _, _, G, ⟨z, t, fo⟩, _⟩ := inv
  rcases fo.1 with h | h
  · exact h.1
  · exact h.1
theorem gl_I_up {K b : Int} {m : gh_M} (inv : gl_I K b m) : gl_I K (b + 1) m := by
  obtain ⟨h1, h2, h3, h4, h5⟩ := inv
  exact ⟨h1, h2, h3, by omega, h5⟩
/-- cells of the reading alone have changed -/
theorem gl_I_f {K b : Int} {m m2 : gh_M} (h1 : ∀ a, (a < 3 ∨ 12 < a) → (a < 63 ∨ 74 < a) → m2 a = m a) (h2 : ∀ y, 22 < y → m2 63 y = m 63 y) (tp : gl_tp m2) (ft : m2 5 1 = m2 63 2 ∧ m2 5 2 = m2 63 3) (inv : gl_I K b m) : gl_I K b m2 := by
  obtain ⟨i1, i2, i3, i4, i5, i6, G, ⟨z, t, fo⟩, al⟩ := inv
  have e : ∀ a, 12 < a → a < 63 → m2 a = m a := fun a p q => h1 a (Or.inr p) (Or.inl q)
  have e' : ∀ a, 74 < a → m2 a = m a := fun a p => h1 a (Or.inr (by omega)) (Or.inr p)
  have e0 : m2 0 = m 0 := h1 0 (Or.inl (by decide)) (Or.inl (by decide))
  have e2 : m2 2 = m 2 := h1 2 (Or.inl (by decide)) (Or.inl (by decide))
  have c41 := e 41 (by decide) (by decide)
  refine ⟨tp, ft, by rw [e2, h2 24 (by decide)]; exact i3, by rw [c41, h2 64 (by decide)]; exact i4, by rw [e' 106 (by decide), h2 64 (by decide)]; exact i5, ⟨by rw [e 36 (by decide) (by decide)]; exact i6.1, by rw [e 36 (by decide) (by decide)]; exact i6.2.1, by rw [e2, e 26 (by decide) (by decide), h2 50 (by decide)]; exact i6.2.2⟩, G, ⟨z, t, ?_⟩, fun y => ?_⟩
  · unfold gk_fo gk_mem gk_ue at fo ⊢
    rw [e0, c41, e 42 (by decide) (by decide), e' 118 (by decide), e' 119 (by decide)]
    exact fo
  · rw [e2] at y
    obtain ⟨a0, a1, a2, ⟨b1, b2, b3, b5⟩, a4, a5, a6⟩ := al y
    have c20 := e 20 (by decide) (by decide)
    have c21 := e 21 (by decide) (by decide)
    have c26 := e 26 (by decide) (by decide)
    have c27 := e 27 (by decide) (by decide)
    have d26 : m2 26 3 = m 26 3 := by rw [c26]
    refine ⟨gl_c4_x e0 d26 c27 c41 (e 42 (by decide) (by decide)) (e' 118 (by decide)) (e' 119 (by decide)) a0, gl_gr_x (fun a p q => e a (by omega) (by omega)) (fun a p q => e' a (by omega)) (fun y hy => h2 y (by omega)) a1, gl_tx_x d26 c27 (e' 96 (by decide)) (h2 50 (by decide)) a2, ⟨gl_c1_x c20 d26 c27 (by rw [e 30 (by decide) (by decide)]) (fun a p q => e a (by omega) (by omega)) b1, gl_c2_x c21 d26 c27 (by rw [e 36 (by decide) (by decide)]) (e 37 (by decide) (by decide)) b2, gl_c3_x c20 c21 d26 c27 (by rw [e 36 (by decide) (by decide)]) (e 39 (by decide) (by decide)) b3, gl_c5_x c20 (e 58 (by decide) (by decide)) b5⟩, gl_m1_x c20 d26 c27 (e' 82 (by decide)) (h2 52 (by decide)) (fun a p q => e' a (by omega)) a4, gl_m2_x d26 c27 (h2 61 (by decide)) (h2 64 (by decide)) (e' 105 (by decide)) (e' 106 (by decide)) a5, gl_pk_x (fun y _ => by rw [e 47 (by decide) (by decide)]) (e 48 (by decide) (by decide)) (fun y hy => h2 y (by omega)) (e' 109 (by decide)) a6⟩
theorem gl_R_a5 {a b c d e : Int} {p q : gl_P} (ok : gl_5 a b c d e) (h : gl_R p q) : gl_R (gl_a5 a b c d e p) (gl_a5 a b c d e q) := gl_R_ap ok.2.2.2.2 (gl_R_ap ok.2.2.2.1 (gl_R_ap ok.2.2.1 (gl_R_ap ok.2.1 (gl_R_ap ok.1 h 4 (Nat.le_refl _)) 4 (Nat.le_refl _)) 4 (Nat.le_refl _)) 4 (Nat.le_refl _)) 4 (Nat.le_refl _)
theorem gl_a5_2 {a b c d e : Int} {p : gl_P} : (gl_a5 a b c d e p).2 = p.2 + gl_s5 a b c d e := by
  unfold gl_a5 gl_s5
  rw [gl_ap_2, gl_ap_2, gl_ap_2, gl_ap_2, gl_ap_2]
  omega
theorem gl_type {K b : Int} {m : gh_M} {Q1 : Int → gh_M → Prop} {v1 v2 v3 v4 v5 : Int} (inv : gl_I K b m) (H : ∀ r m1, m1 1 = m 1 → m1 0 3 = K → (∀ Q2 : Int → gh_M → Prop, (∀ m2, m2 1 = m 1 → gl_I K (b + 1) m2 → Q2 r m2) → w_Model_type v1 v2 v3 v4 v5 m1 Q2) → Q1 r m1) : w_House_type v1 v2 v3 v4 v5 m Q1 := by
  have hK := gl_I_K inv
  obtain ⟨tR, t240⟩ := inv.1
  have e1 : m 63 1 = m 3 1 := tR.1
  have c0 : 0 ≤ m 3 1 := tR.2.1
  refine gl_ctype c0 t240 (fun no => ?_) (fun ok gt => ?_) (fun ok le m1 x1 o1 p1 => ?_)
  · refine H _ m rfl hK (fun Q2 h2 => ?_)
    refine gl_mtype (by omega) (by omega) (fun _ => h2 m rfl (gl_I_up inv)) (fun ok => absurd ok no) (fun ok => absurd ok no)
  · refine H _ m rfl hK (fun Q2 h2 => ?_)
    refine gl_mtype (by omega) (by omega) (fun no => absurd ok no) (fun _ _ => h2 m rfl (gl_I_up inv)) (fun _ le => by omega)
  · refine H _ m1 (x1 1 (by decide)) (by rw [x1 0 (by decide)]; exact hK) (fun Q2 h2 => ?_)
    have c63 : m1 63 = m 63 := x1 63 (by decide)
    have c64 : m1 64 = m 64 := x1 64 (by decide)
    refine gl_mtype (by rw [c63]; omega) (by rw [c63]; omega) (fun no => absurd ok no) (fun _ gt => by rw [c63] at gt; omega) (fun _ _ m2 x2 o2 p2 => ?_)
    have r2 := gl_R_a5 ok tR
    rw [c63, c64] at p2
    rw [← p1, ← p2] at r2
    have q2 : m2 63 1 = m1 3 1 := r2.1
    rw [q2]
    have x12 : gx [3, 4, 63, 64] m m2 := gx_t (gx_sub x1 (by decide)) (gx_sub x2 (by decide))
    have s1 : m1 3 1 = m 3 1 + gl_s5 v1 v2 v3 v4 v5 := (congrArg Prod.snd p1).trans gl_a5_2
    refine h2 m2 (x12 1 (by decide)) (gl_I_f (fun a p q => x12 a (fun z => by
      simp only [List.mem_cons, List.not_mem_nil, or_false] at z
      omega)) (fun y hy => by rw [o2 y (by omega), c63]) ⟨?_, ?_⟩ ?_ (gl_I_up inv))
    · rw [x2 3 (by decide), x2 4 (by decide)]
      exact r2
    · rw [x2 3 (by decide)]
      omega
    · rw [x12 5 (by decide), o2 2 (by decide), o2 3 (by decide), c63]
      exact inv.2.1
theorem gl_wipe {K b : Int} {m : gh_M} {Q1 : Int → gh_M → Prop} (inv : gl_I K b m) (H : ∀ r m1, m1 1 = m 1 → m1 0 3 = K → (∀ Q2 : Int → gh_M → Prop, (∀ m2, m2 1 = m 1 → gl_I K (b + 1) m2 → Q2 r m2) → w_Model_wipe m1 Q2) → Q1 r m1) : w_House_wipe m Q1 := by
  have hK := gl_I_K inv
  obtain ⟨tR, t240⟩ := inv.1
  have e1 : m 63 1 = m 3 1 := tR.1
  intro v hv
  rw [hv]
  have x1 : gx [3] m (gh_u m 3 1 0) := gx_one _ _ _ _
  refine H _ _ (x1 1 (by decide)) (by rw [x1 0 (by decide)]; exact hK) (fun Q2 h2 => ?_)
  intro w hw
  rw [hw, gh_u_a (by decide), e1]
  have x2 : gx [63] (gh_u m 3 1 0) (gh_u (gh_u m 3 1 0) 63 1 0) := gx_one _ _ _ _
  have x12 : gx [3, 63] m (gh_u (gh_u m 3 1 0) 63 1 0) := gx_t (gx_sub x1 (by decide)) (gx_sub x2 (by decide))
  refine h2 _ (x12 1 (by decide)) (gl_I_f (fun a p q => x12 a (fun z => by
    simp only [List.mem_cons, List.not_mem_nil, or_false] at z
    omega)) (fun y hy => by rw [gh_u_i (by omega), gh_u_a (by decide)]) ⟨⟨?_, ?_, fun k k0 k1 => ?_⟩, ?_⟩ ?_ (gl_I_up inv))
  · show gh_u (gh_u m 3 1 0) 63 1 0 63 1 = gh_u (gh_u m 3 1 0) 63 1 0 3 1
    rw [gh_u_s, gh_u_a (by decide), gh_u_s]
  · show 0 ≤ gh_u (gh_u m 3 1 0) 63 1 0 3 1
    rw [gh_u_a (by decide), gh_u_s]
    exact Int.le_refl _
  · have k1' : k < gh_u (gh_u m 3 1 0) 63 1 0 3 1 := k1
    rw [gh_u_a (by decide), gh_u_s] at k1'
    omega
  · rw [gh_u_a (by decide), gh_u_s]
    decide
  · have c63 : ∀ y, y ≠ 1 → gh_u (gh_u m 3 1 0) 63 1 0 63 y = m 63 y := fun y yn => by
      rw [gh_u_i yn, gh_u_a (by decide)]
    rw [x12 5 (by decide), c63 2 (by decide), c63 3 (by decide)]
    exact inv.2.1
theorem gl_sign {K b : Int} {m : gh_M} {v : Int} (inv : gl_I K b m) : k_House_sign v m ∧ k_Model_sign v m ∧ x_House_sign v m = x_Model_sign v m := by
  obtain ⟨⟨t1, t2, t3⟩, t240⟩ := inv.1
  have e1 : m 63 1 = m 3 1 := t1
  have c0 : 0 ≤ m 3 1 := t2
  have t3' : ∀ k, 0 ≤ k → k < m 3 1 → m 64 k = m 4 k ∧ 32 ≤ m 4 k ∧ m 4 k ≤ 126 := t3
  unfold k_House_sign k_Model_sign x_House_sign x_Model_sign k_Tape_signAt x_Tape_signAt
  rw [e1]
  refine ⟨fun _ _ _ _ _ => by omega, ⟨by omega, fun z => by omega⟩, ?_⟩
  by_cases a : v < 0
  · rw [if_pos a, if_neg (fun z => z.1 a)]
  · rw [if_neg a]
    by_cases c : v < m 3 1
    · rw [if_pos c, if_neg a, if_pos c, if_pos (by omega), if_pos ⟨a, by omega⟩]
      exact (t3' v (by omega) c).1.symm
    · rw [if_neg c, if_neg (fun z => by omega)]
theorem gl_fault {K b : Int} {m : gh_M} {v : Int} {Q : Int → Prop} (inv : gl_I K b m) (H : Q (x_Model_fault v m)) : w_House_fault v m Q := by
  unfold x_Model_fault at H
  rw [← inv.2.1.1, ← inv.2.1.2] at H
  refine ⟨fun z => ?_, fun z => ?_, fun z y => ?_⟩
  · rw [if_pos (by omega), if_pos z] at H
    exact H
  · rw [if_pos (by omega), if_neg (by omega)] at H
    exact H
  · rw [if_neg (by omega)] at H
    exact H
theorem gl_letter {K b : Int} {m : gh_M} {v : Int} (inv : gl_I K b m) : k_House_letter v m ∧ k_Model_letter v m ∧ x_House_letter v m = x_Model_letter v m := by
  obtain ⟨_, _, i3, _, _, _, G, _, al⟩ := inv
  unfold k_House_letter k_Model_letter x_House_letter x_Model_letter
  rw [i3] at al ⊢
  by_cases h : m 63 24 = 0
  · rw [if_pos h, if_pos h]
    exact ⟨fun z => absurd h z, fun z => absurd h z, rfl⟩
  obtain ⟨_, a1, ⟨⟨g1, g2, g3⟩, d1, d2, d3, d4⟩, _⟩ := al h
  rw [if_neg h, if_neg h, d1]
  refine ⟨fun _ _ _ => by omega, fun _ => ⟨by omega, fun z => by omega⟩, ?_⟩
  by_cases a : v < 0
  · rw [if_pos a, if_neg (fun z => z.1 a)]
  · rw [if_neg a]
    by_cases c : v < m 26 3
    · rw [if_pos c, if_pos ⟨a, by omega⟩]
      exact (d4 v (by omega) c).1.symm
    · rw [if_neg c, if_neg (fun z => by omega)]
theorem gl_step {K b : Int} {m : gh_M} {v : Int} (inv : gl_I K b m) : k_House_step v m ∧ k_Model_step v m ∧ x_House_step v m = x_Model_step v m := by
  obtain ⟨_, _, i3, _, _, _, G, _, al⟩ := inv
  unfold k_House_step k_Model_step x_House_step x_Model_step
  rw [i3] at al ⊢
  by_cases h : m 63 24 = 0
  · rw [if_pos h, if_pos h]
    exact ⟨fun z => absurd h z, fun z => absurd h z, rfl⟩
  obtain ⟨_, _, _, _, _, _, ⟨p1, p2, p3, p4⟩⟩ := al h
  rw [if_neg h, if_neg h, p2]
  refine ⟨fun _ _ _ _ => by omega, fun _ _ => ⟨by omega, fun z => by omega⟩, ?_⟩
  by_cases a0 : m 47 4 = 0
  · rw [if_pos a0, if_pos a0]
  rw [if_neg a0, if_neg a0]
  by_cases a : v < 0
  · rw [if_pos a, if_neg (fun z => z.1 a)]
  · rw [if_neg a]
    by_cases c : v < m 47 4
    · rw [if_pos c, if_pos ⟨a, by omega⟩]
      exact (p4 v (by omega) c).symm
    · rw [if_neg c, if_neg (fun z => by omega)]
theorem gl_deep {K b : Int} {m : gh_M} (inv : gl_I K b m) : x_House_deep m = x_Model_deep m := by
  obtain ⟨_, _, i3, _, _, _, G, _, al⟩ := inv
  unfold x_House_deep x_Model_deep
  rw [i3] at al ⊢
  by_cases h : m 63 24 = 0
  · rw [if_pos h, if_pos h]
  obtain ⟨_, _, _, _, _, _, ⟨p1, p2, p3, p4⟩⟩ := al h
  rw [if_neg h, if_neg h, p2]
  by_cases a0 : m 47 4 = 0
  · rw [if_pos (by omega), if_pos a0]
  · rw [if_neg (by omega), if_neg a0]
    exact (p3 a0).symm
theorem gl_rule {K b : Int} {m : gh_M} {v w : Int} (inv : gl_I K b m) : k_House_rule v w m ∧ k_Model_rule v w m ∧ x_House_rule v w m = x_Model_rule v w m := by
  obtain ⟨_, _, i3, _, _, _, G, _, al⟩ := inv
  unfold k_House_rule k_Model_rule x_House_rule x_Model_rule k_Model_isRule p_House_isRule p_Model_isRule
  rw [i3] at al ⊢
  by_cases h : m 63 24 = 0
  · refine ⟨⟨fun _ _ _ z => absurd h z, fun z => absurd h z⟩, ⟨fun _ _ z => absurd h z, fun z => absurd h z⟩, ?_⟩
    simp only [if_pos h]
    by_cases a : w < 0
    · rw [if_pos a, if_neg (fun z => z.1 a)]
    · rw [if_neg a]
      by_cases c : w ≤ 1
      · rw [if_pos c, if_pos ⟨a, c⟩]
      · rw [if_neg c, if_neg (fun z => c z.2)]
  obtain ⟨_, ⟨hG, hC, hD, _⟩, _⟩ := al h
  have hR0 := hG.2.2.1
  have hR := hG.2.2.2.1
  rw [hC.2.1, hD.2.1]
  refine ⟨⟨fun z => absurd z h, fun _ _ _ _ _ => ⟨fun _ => by omega, fun _ => by omega⟩⟩, ⟨fun z => absurd z h, fun _ => ⟨fun _ => by omega, fun _ _ _ => ⟨fun _ => by omega, fun _ => by omega⟩⟩⟩, ?_⟩
  simp only [if_neg h]
  by_cases r : ¬ v < 0 ∧ v < gm_R G
  · have rm : ¬ m 63 24 = 0 ∧ ¬ v < 0 ∧ v ≤ gm_R G - 1 := ⟨h, r.1, by omega⟩
    have c1 := hC.2.2 v (by omega) r.2
    have c2 := hD.2.2 v (by omega) r.2
    rw [if_pos r, if_pos rm, c1.1, c1.2.1, c2.1, c2.2.1]
    by_cases a : w < 0
    · rw [if_pos a, if_neg (fun z => z.1 a)]
    · rw [if_neg a]
      by_cases c : w ≤ 1
      · have wc : ¬ w < 0 ∧ w ≤ 1 := ⟨a, c⟩
        rw [if_pos c, if_pos wc]
      · rw [if_neg c, if_neg (fun z => c z.2)]
  · have rm : ¬ (¬ m 63 24 = 0 ∧ ¬ v < 0 ∧ v ≤ gm_R G - 1) := fun z => r ⟨z.2.1, by omega⟩
    rw [if_neg r, if_neg rm]
theorem gl_part {K b : Int} {m : gh_M} {v w : Int} (inv : gl_I K b m) : k_House_part v w m ∧ k_Model_part v w m ∧ x_House_part v w m = x_Model_part v w m := by
  obtain ⟨_, _, i3, _, _, _, G, _, al⟩ := inv
  unfold k_House_part k_Model_part x_House_part x_Model_part k_Model_isRule p_House_isRule p_Model_isRule
  rw [i3] at al ⊢
  by_cases h : m 63 24 = 0
  · rw [if_pos h, if_pos h]
    exact ⟨fun z => absurd h z, fun z => absurd h z, rfl⟩
  obtain ⟨_, ⟨hG, hC, hD, _⟩, _⟩ := al h
  have hR0 := hG.2.2.1
  have hR := hG.2.2.2.1
  rw [if_neg h, if_neg h, hC.2.1, hD.2.1]
  by_cases r : ¬ v < 0 ∧ v < gm_R G
  · have rm : ¬ m 63 24 = 0 ∧ ¬ v < 0 ∧ v ≤ gm_R G - 1 := ⟨h, r.1, by omega⟩
    have c1 := hC.2.2 v (by omega) r.2
    have c2 := hD.2.2 v (by omega) r.2
    have s4 := (hG.2.2.2.2.1 v (by omega) r.2).2.2
    rw [if_pos r, if_pos rm, c1.2.1, c2.2.1]
    refine ⟨fun _ _ wn => ⟨by omega, by omega, fun wl => (gm_partAt hG hC (by omega) r.2 (by omega) wl).1⟩, fun _ => ⟨fun _ => by omega, fun _ => ⟨by omega, by omega, by omega, fun z => by omega⟩⟩, ?_⟩
    by_cases a : w < 0
    · rw [if_pos a, if_neg (fun z => z.1 a)]
    · rw [if_neg a]
      by_cases c : w < gm_s G v
      · have wm : ¬ w < 0 ∧ w ≤ gm_s G v - 1 := ⟨a, by omega⟩
        rw [if_pos c, if_pos wm, (gm_partAt hG hC (by omega) r.2 (by omega) c).2]
        exact (c2.2.2 w (by omega) c).symm
      · have wm : ¬ (¬ w < 0 ∧ w ≤ gm_s G v - 1) := fun z => by omega
        rw [if_neg c, if_neg wm]
  · have rm : ¬ (¬ m 63 24 = 0 ∧ ¬ v < 0 ∧ v ≤ gm_R G - 1) := fun z => r ⟨z.2.1, by omega⟩
    rw [if_neg r, if_neg rm]
    exact ⟨fun _ z => absurd z r, fun _ => ⟨fun _ => by omega, fun z => absurd z rm⟩, rfl⟩
theorem gl_first {K b : Int} {m : gh_M} {v : Int} (inv : gl_I K b m) : k_House_first v m ∧ k_Model_first v m ∧ x_House_first v m = x_Model_first v m := by
  obtain ⟨_, _, i3, _, _, _, G, _, al⟩ := inv
  unfold k_House_first k_Model_first x_House_first x_Model_first k_Model_isName p_House_isName p_Model_isName
  rw [i3] at al ⊢
  by_cases h : m 63 24 = 0
  · rw [if_pos h, if_pos h]
    exact ⟨fun z => absurd h z, fun z => absurd h z, rfl⟩
  obtain ⟨_, ⟨hG, hC, hD, _, _, _, _, _, _, mf⟩, _⟩ := al h
  have hN0 := hG.1
  have hN := hG.2.1
  rw [if_neg h, if_neg h, hC.1, hD.1]
  refine ⟨fun _ z => by omega, fun _ => ⟨fun _ => by omega, fun z => by omega⟩, ?_⟩
  by_cases r : ¬ v < 0 ∧ v < gm_N G
  · rw [if_pos r, if_pos ⟨h, r.1, by omega⟩]
    exact (mf.2.2.2.2.2.1 v (by omega) r.2).symm
  · rw [if_neg r, if_neg (fun z => r ⟨z.2.1, by omega⟩)]
theorem gl_follow {K b : Int} {m : gh_M} {v : Int} (inv : gl_I K b m) : k_House_follow v m ∧ k_Model_follow v m ∧ x_House_follow v m = x_Model_follow v m := by
  obtain ⟨_, _, i3, _, _, _, G, _, al⟩ := inv
  unfold k_House_follow k_Model_follow x_House_follow x_Model_follow k_Model_isName p_House_isName p_Model_isName
  rw [i3] at al ⊢
  by_cases h : m 63 24 = 0
  · rw [if_pos h, if_pos h]
    exact ⟨fun z => absurd h z, fun z => absurd h z, rfl⟩
  obtain ⟨_, ⟨hG, hC, hD, _, _, _, _, _, _, mf⟩, _⟩ := al h
  have hN0 := hG.1
  have hN := hG.2.1
  rw [if_neg h, if_neg h, hC.1, hD.1]
  refine ⟨fun _ z => by omega, fun _ => ⟨fun _ => by omega, fun z => by omega⟩, ?_⟩
  by_cases r : ¬ v < 0 ∧ v < gm_N G
  · rw [if_pos r, if_pos ⟨h, r.1, by omega⟩]
    exact (mf.2.2.2.2.2.2.1 v (by omega) r.2).symm
  · rw [if_neg r, if_neg (fun z => r ⟨z.2.1, by omega⟩)]
