/-! NAMES, SUMS, THE TABLE -/
theorem gl_tab {G : gm_G} {m : gh_M} {Q : Int → Prop} (g : gl_gr G m) {n c : Int} (n0 : 0 ≤ n) (n1 : n < gm_N G) (c0 : 0 ≤ c) (c1 : c ≤ 26) (H : ∀ v, gm_fnd (fun r => gb (m 25 r) c) (m 14 n) (m 14 n + m 15 n) v → Q v) : w_Model_tabled n c m Q := by
  have hE := gl_E g
  obtain ⟨hG, hC, hD, g4, g5, g6, g7, f, f2, mf⟩ := g
  obtain ⟨a1, a2, ⟨hU0, hU⟩, a4, a5⟩ := f
  refine gm_tabled hG hD g5 hE mf.2.2.1 mf.2.2.2.2.1 mf.2.2.2.2.2.1 f2.2.1.1 mf.2.2.2.2.2.2.1 f2.2.2.1.1 (fun _ _ _ => trivial) n0 n1 c0 c1 (fun v hv => H v ?_)
  obtain ⟨e1, e2, _⟩ := g6 n n0 n1
  rw [← e1, ← e2] at hv
  obtain ⟨r1, r2, r3, _⟩ := g4 n n0 n1
  exact gm_fnd_cg (fun r ra rb => ((f2.2.2.2 r (by omega) (by omega)).2 c c0).symm) hv
theorem gl_table {K b : Int} {m : gh_M} {v w : Int} {Q : Int → Prop} (inv : gl_I K b m) (H : ∀ r, (∀ Q2 : Int → Prop, Q2 r → w_Model_table v w m Q2) → Q r) : w_House_table v w m Q := by
  obtain ⟨_, _, i3, _, _, _, G, _, al⟩ := inv
  unfold w_House_table
  unfold w_Model_table k_Model_isName at H
  rw [i3] at al ⊢
  by_cases h : m 63 24 = 0
  · by_cases r : ¬ w < 0 ∧ w ≤ 26
    · refine ⟨True, fun _ => ⟨fun _ => ⟨fun _ => ?_, fun z => absurd h z⟩, fun z => absurd r z⟩, fun _ => trivial, fun z => absurd (Or.inl h) z⟩
      exact H _ (fun Q2 q => ⟨True, fun _ => ⟨fun _ => ⟨fun _ => q, fun z => absurd h z⟩, fun z => absurd r z⟩, fun z => absurd h z, fun _ => trivial, fun z => absurd (Or.inl h) z⟩)
    · refine ⟨True, fun _ => ⟨fun z => absurd z r, fun _ => ?_⟩, fun _ => trivial, fun z => absurd (Or.inl h) z⟩
      exact H _ (fun Q2 q => ⟨True, fun _ => ⟨fun z => absurd z r, fun _ => q⟩, fun z => absurd h z, fun _ => trivial, fun z => absurd (Or.inl h) z⟩)
  obtain ⟨_, g, _⟩ := al h
  have g0 := g
  obtain ⟨hG, hC, hD, g4, g5, g6, g7, f, f2, mf⟩ := g
  have hN0 := hG.1
  have hN := hG.2.1
  unfold p_House_isName
  unfold p_Model_isName at H
  rw [hD.1] at H
  rw [hC.1]
  by_cases nm : ¬ v < 0 ∧ v < gm_N G
  · have nm2 : m 63 24 = 0 ∨ ¬ m 63 24 = 0 ∧ ¬ v < 0 ∧ v ≤ gm_N G - 1 := Or.inr ⟨h, nm.1, by omega⟩
    by_cases r : ¬ w < 0 ∧ w ≤ 26
    · refine ⟨True, fun _ => ⟨fun _ => ⟨fun z => absurd z h, fun _ => ?_⟩, fun z => absurd r z⟩, fun _ => trivial, fun z => absurd (Or.inr nm) z⟩
      refine gm_ruleFor hG g4 (fun r r0 r1 => (f2.2.2.2 r r0 r1).1) (by omega) nm.2 (by omega) r.2 (fun x hx => H x (fun Q2 q => ⟨True, fun _ => ⟨fun _ => ⟨fun z => absurd z h, fun _ => ?_⟩, fun z => absurd r z⟩, fun _ => by omega, fun _ => trivial, fun z => absurd nm2 z⟩))
      refine gl_tab g0 (by omega) nm.2 (by omega) r.2 (fun y hy => ?_)
      have e := gm_fnd_uniq (g4 v (by omega) nm.2).1 hx hy
      rw [← e]
      exact q
    · refine ⟨True, fun _ => ⟨fun z => absurd z r, fun _ => ?_⟩, fun _ => trivial, fun z => absurd (Or.inr nm) z⟩
      exact H _ (fun Q2 q => ⟨True, fun _ => ⟨fun z => absurd z r, fun _ => q⟩, fun _ => by omega, fun _ => trivial, fun z => absurd nm2 z⟩)
  · have nm2 : ¬ (m 63 24 = 0 ∨ ¬ m 63 24 = 0 ∧ ¬ v < 0 ∧ v ≤ gm_N G - 1) := fun z => z.elim h (fun y => nm ⟨y.2.1, by omega⟩)
    refine ⟨False, fun z => False.elim z, fun z => z.elim h nm, fun _ => ?_⟩
    exact H _ (fun Q2 q => ⟨False, fun z => False.elim z, fun _ => by omega, fun z => nm2 z, fun _ => q⟩)
theorem gl_knameSign {K b : Int} {m : gh_M} {v w : Int} (inv : gl_I K b m) : k_Model_nameSign v w m := by
  obtain ⟨_, _, i3, _, _, _, G, _, al⟩ := inv
  unfold k_Model_nameSign k_Model_isName p_Model_isName
  rw [i3] at al
  by_cases h : m 63 24 = 0
  · exact ⟨fun _ _ z => absurd h z, fun z => absurd h z⟩
  obtain ⟨_, ⟨hG, hC, hD, g4, g5, g6, _⟩, _⟩ := al h
  have hN0 := hG.1
  have hN := hG.2.1
  rw [hD.1]
  refine ⟨fun z => absurd z h, fun _ => ⟨fun _ => by omega, fun z a _ => ⟨by omega, by omega, fun l => ?_⟩⟩⟩
  have := (g6 v (by omega) (by omega)).2.2.1
  omega
theorem gl_nameSign {K b : Int} {m : gh_M} {v w : Int} {Q : Int → Prop} (inv : gl_I K b m) (q : Q (x_Model_nameSign v w m)) : w_House_nameSign v w m Q := by
  obtain ⟨_, _, i3, _, _, _, G, _, al⟩ := inv
  unfold w_House_nameSign
  unfold x_Model_nameSign at q
  rw [i3] at al ⊢
  by_cases h : m 63 24 = 0
  · simp only [if_pos h] at q
    refine ⟨True, fun _ => ⟨fun a => ?_, fun a => ⟨fun _ => ?_, fun z => absurd h z⟩⟩, fun _ => trivial, fun z => absurd (Or.inl h) z⟩
    · rw [if_pos a] at q
      exact q
    · rw [if_neg a] at q
      exact q
  obtain ⟨_, ⟨hG, hC, hD, g4, g5, g6, _⟩, _⟩ := al h
  have hN0 := hG.1
  have hN := hG.2.1
  have nmv : ¬ v < 0 ∧ v < gm_N G → gl_nm m v := fun z => (g6 v (by omega) z.2).2.2
  unfold p_Model_isName at q
  unfold p_House_isName
  rw [hD.1] at q
  rw [hC.1]
  simp only [if_neg h] at q
  by_cases nm : ¬ v < 0 ∧ v < gm_N G
  · have nm2 : ¬ m 63 24 = 0 ∧ ¬ v < 0 ∧ v ≤ gm_N G - 1 := ⟨h, nm.1, by omega⟩
    rw [if_pos nm2] at q
    refine ⟨True, fun _ => ⟨fun a => ?_, fun a => ⟨fun z => absurd z h, fun _ => ?_⟩⟩, fun _ => trivial, fun z => absurd (Or.inr nm) z⟩
    · rw [if_pos a] at q
      exact q
    · rw [if_neg a] at q
      obtain ⟨⟨n0, n3⟩, nk⟩ := nmv nm
      unfold w_Grammar_signOf
      refine ⟨fun _ => by omega, fun v3 hv3 => ?_⟩
      by_cases l3 : w < 3
      · rw [if_pos l3] at hv3
        obtain ⟨k1, k2⟩ := nk w (by omega) l3
        by_cases lm : w < m 75 v
        · obtain ⟨z1, z2⟩ := k1 lm
          rw [if_pos lm] at q
          rw [hv3, z2, if_neg z1]
          exact q
        · rw [if_neg lm] at q
          rw [hv3, k2 (by omega), if_pos rfl]
          exact q
      · rw [if_neg l3] at hv3
        rw [if_neg (by omega)] at q
        rw [if_pos hv3]
        exact q
  · have nm2 : ¬ (¬ m 63 24 = 0 ∧ ¬ v < 0 ∧ v ≤ gm_N G - 1) := fun y => nm ⟨y.2.1, by omega⟩
    rw [if_neg nm2] at q
    exact ⟨False, fun z => False.elim z, fun z => z.elim h nm, fun _ => q⟩
theorem gl_bit1 {x i : Int} (hx : gbs 31 x) (i0 : 0 ≤ i) (i1 : i < 32) (h : gb x i) : gh_iand_f (gh_ishr_f x i) 1 = 1 := (gb_test1 hx i0 i1).mpr h
theorem gl_bit0 {x i : Int} (hx : gbs 31 x) (i0 : 0 ≤ i) (i1 : i < 32) (h : ¬ gb x i) : gh_iand_f (gh_ishr_f x i) 1 = 0 := (gb_test0 hx i0 i1).mpr h
theorem gl_name {K b : Int} {m : gh_M} {v w : Int} {Q : Int → Prop} (inv : gl_I K b m) (H : ∀ r, (∀ Q2 : Int → Prop, Q2 r → w_Model_name v w m Q2) → Q r) : w_House_name v w m Q := by
  obtain ⟨_, _, i3, _, _, _, G, _, al⟩ := inv
  unfold w_House_name
  unfold w_Model_name k_Model_isName at H
  rw [i3] at al ⊢
  by_cases h : m 63 24 = 0
  · by_cases r : ¬ w < 0 ∧ w ≤ 7
    · refine ⟨True, fun _ => ⟨fun _ => ⟨fun _ => ?_, fun z => absurd h z⟩, fun z => absurd r z⟩, fun _ => trivial, fun z => absurd (Or.inl h) z⟩
      exact H _ (fun Q2 q => ⟨True, fun _ => ⟨fun _ => ⟨fun _ => q, fun z => absurd h z⟩, fun z => absurd r z⟩, fun z => absurd h z, fun _ => trivial, fun z => absurd (Or.inl h) z⟩)
    · refine ⟨True, fun _ => ⟨fun z => absurd z r, fun _ => ?_⟩, fun _ => trivial, fun z => absurd (Or.inl h) z⟩
      exact H _ (fun Q2 q => ⟨True, fun _ => ⟨fun z => absurd z r, fun _ => q⟩, fun z => absurd h z, fun _ => trivial, fun z => absurd (Or.inl h) z⟩)
  obtain ⟨_, g, _⟩ := al h
  have hE := gl_E g
  obtain ⟨hG, hC, hD, g4, g5, g6, g7, f, f2, mf⟩ := g
  have hN0 := hG.1
  have hN := hG.2.1
  have n31 : (gm_N G).toNat ≤ 31 := by omega
  unfold p_House_isName
  unfold p_Model_isName at H
  rw [hD.1] at H
  rw [hC.1]
  by_cases nm : ¬ v < 0 ∧ v < gm_N G
  · have nm2 : m 63 24 = 0 ∨ ¬ m 63 24 = 0 ∧ ¬ v < 0 ∧ v ≤ gm_N G - 1 := Or.inr ⟨h, nm.1, by omega⟩
    have v0 : 0 ≤ v := by omega
    by_cases r : ¬ w < 0 ∧ w ≤ 7
    · have H2 : ∀ r', (∀ Q2 : Int → Prop, Q2 r' → ((w = 0 → 0 ≤ v ∧ v < 8 ∧ Q2 (m 77 v)) ∧ ((w = 1 → 0 ≤ v ∧ v < 8 ∧ Q2 (m 78 v)) ∧ ((w = 2 → 0 ≤ v ∧ v < 8 ∧ Q2 (if ((m 82 v) = 0) then (1:Int) else 0)) ∧ ((w = 3 → 0 ≤ v ∧ v < 8 ∧ Q2 (if ((m 82 v) < 1000000000) then (1:Int) else 0)) ∧ ((w = 4 → 0 ≤ v ∧ v < 8 ∧ Q2 (if p_Model_bit (m 84 v) then (1:Int) else 0)) ∧ ((w = 5 → 0 ≤ v ∧ v < 8 ∧ Q2 (if p_Model_bit (m 85 v) then (1:Int) else 0)) ∧ ((w = 6 → k_Model_leastTold v m ∧ Q2 (x_Model_leastTold v m)) ∧ (¬ (w = 0) → ¬ (w = 1) → ¬ (w = 2) → ¬ (w = 3) → ¬ (w = 4) → ¬ (w = 5) → ¬ (w = 6) → gh_i (9 * v) ∧ 0 ≤ 9 * v ∧ (9 * v) < 64 ∧ Q2 (if p_Model_bit (m 88 (9 * v)) then (1:Int) else 0)))))))))) → Q r' := fun r' y => H r' (fun Q2 q => ⟨True, fun _ => ⟨fun _ => ⟨fun z => absurd z h, fun _ => y Q2 q⟩, fun z => absurd r z⟩, fun _ => by omega, fun _ => trivial, fun z => absurd nm2 z⟩)
      clear H
      obtain ⟨⟨f1, f1'⟩, ⟨l1, l2, l3⟩, ⟨f3, f3'⟩, f4, ⟨f5, _⟩, ⟨f6, _⟩⟩ := f
      have e82 := mf.1 v v0 nm.2
      refine ⟨True, fun _ => ⟨fun _ => ⟨fun z => absurd z h, fun _ => ⟨fun c => ?_, fun c => ?_, fun c => ?_, fun c => ?_, fun c => ?_, fun c => ?_, fun c => ?_, fun c0 c1 c2 c3 c4 c5 c6 => ?_⟩⟩, fun z => absurd r z⟩, fun _ => trivial, fun z => absurd (Or.inr nm) z⟩
      · refine ⟨v0, by omega, H2 _ (fun Q2 q => ⟨fun _ => ⟨v0, by omega, by rw [← (g6 v v0 nm.2).1]; exact q⟩, fun z => by omega, fun z => by omega, fun z => by omega, fun z => by omega, fun z => by omega, fun z => by omega, fun z => by omega⟩)⟩
      · refine ⟨v0, by omega, H2 _ (fun Q2 q => ⟨fun z => by omega, fun _ => ⟨v0, by omega, by rw [← (g6 v v0 nm.2).2.1]; exact q⟩, fun z => by omega, fun z => by omega, fun z => by omega, fun z => by omega, fun z => by omega, fun _ z => by omega⟩)⟩
      · refine H2 _ (fun Q2 q => ⟨fun z => by omega, fun z => by omega, fun _ => ⟨v0, by omega, ?_⟩, fun z => by omega, fun z => by omega, fun z => by omega, fun z => by omega, fun _ _ z => by omega⟩)
        by_cases u : m 82 v = 0
        · rw [if_pos u]
          rw [gl_bit1 (gbs_le f1 n31) v0 (by omega) ((hE v v0 nm.2).mp u)] at q
          exact q
        · rw [if_neg u]
          rw [gl_bit0 (gbs_le f1 n31) v0 (by omega) (fun y => u ((hE v v0 nm.2).mpr y))] at q
          exact q
      · refine H2 _ (fun Q2 q => ⟨fun z => by omega, fun z => by omega, fun z => by omega, fun _ => ⟨v0, by omega, ?_⟩, fun z => by omega, fun z => by omega, fun z => by omega, fun _ _ _ z => by omega⟩)
        have e2 := f3' v v0 nm.2
        unfold gm_mv at e82
        by_cases u : m 21 v < 16777216
        · rw [if_pos u] at e82
          rw [if_pos (by omega)]
          rw [gl_bit1 (gbs_le f3 n31) v0 (by omega) (e2.mpr u)] at q
          exact q
        · rw [if_neg u] at e82
          rw [if_neg (by omega)]
          rw [gl_bit0 (gbs_le f3 n31) v0 (by omega) (fun y => u (e2.mp y))] at q
          exact q
      · refine H2 _ (fun Q2 q => ⟨fun z => by omega, fun z => by omega, fun z => by omega, fun z => by omega, fun _ => ⟨v0, by omega, ?_⟩, fun z => by omega, fun z => by omega, fun _ _ _ _ z => by omega⟩)
        have e2 := mf.2.2.2.1 v v0 nm.2
        by_cases u : m 84 v ≠ 0
        · rw [if_pos u]
          rw [gl_bit1 (gbs_le f5 n31) v0 (by omega) (e2.mp u)] at q
          exact q
        · rw [if_neg u]
          rw [gl_bit0 (gbs_le f5 n31) v0 (by omega) (fun y => u (e2.mpr y))] at q
          exact q
      · refine H2 _ (fun Q2 q => ⟨fun z => by omega, fun z => by omega, fun z => by omega, fun z => by omega, fun z => by omega, fun _ => ⟨v0, by omega, ?_⟩, fun z => by omega, fun _ _ _ _ _ z => by omega⟩)
        have e2 := mf.2.2.2.2.1 v v0 nm.2
        by_cases u : m 85 v ≠ 0
        · rw [if_pos u]
          rw [gl_bit1 (gbs_le f6 n31) v0 (by omega) (e2.mp u)] at q
          exact q
        · rw [if_neg u]
          rw [gl_bit0 (gbs_le f6 n31) v0 (by omega) (fun y => u (e2.mpr y))] at q
          exact q
      · refine ⟨v0, by omega, fun _ => by omega, H2 _ (fun Q2 q => ⟨fun z => by omega, fun z => by omega, fun z => by omega, fun z => by omega, fun z => by omega, fun z => by omega, fun _ => ⟨⟨v0, by omega, fun _ => by omega⟩, ?_⟩, fun _ _ _ _ _ _ z => by omega⟩)⟩
        unfold x_Model_leastTold
        have bd := gm_L_bd hG l1 l2 l3 v0 nm.2
        unfold gm_mv at e82
        by_cases u : m 21 v < 16777216
        · have := bd u
          rw [if_pos u] at e82 q
          rw [if_neg (by omega), e82]
          exact q
        · rw [if_neg u] at e82 q
          rw [if_pos e82]
          exact q
      · refine ⟨v0, by omega, H2 _ (fun Q2 q => ⟨fun z => absurd z c0, fun z => absurd z c1, fun z => absurd z c2, fun z => absurd z c3, fun z => absurd z c4, fun z => absurd z c5, fun z => absurd z c6, fun _ _ _ _ _ _ _ => ⟨by omega, by omega, by omega, ?_⟩⟩)⟩
        have e2 := mf.2.2.2.2.2.2.2.1 v v v0 nm.2 v0 nm.2
        have e9 : 8 * v + v = 9 * v := by omega
        rw [e9] at e2
        have g24 := f2.1.1 v v0 nm.2
        by_cases u : m 88 (9 * v) ≠ 0
        · rw [if_pos u]
          rw [gl_bit1 (gbs_le g24 n31) v0 (by omega) (e2.mp u)] at q
          exact q
        · rw [if_neg u]
          rw [gl_bit0 (gbs_le g24 n31) v0 (by omega) (fun y => u (e2.mpr y))] at q
          exact q
    · refine ⟨True, fun _ => ⟨fun z => absurd z r, fun _ => ?_⟩, fun _ => trivial, fun z => absurd (Or.inr nm) z⟩
      exact H _ (fun Q2 q => ⟨True, fun _ => ⟨fun z => absurd z r, fun _ => q⟩, fun _ => by omega, fun _ => trivial, fun z => absurd nm2 z⟩)
  · have nm2 : ¬ (m 63 24 = 0 ∨ ¬ m 63 24 = 0 ∧ ¬ v < 0 ∧ v ≤ gm_N G - 1) := fun z => z.elim h (fun y => nm ⟨y.2.1, by omega⟩)
    refine ⟨False, fun z => False.elim z, fun z => z.elim h nm, fun _ => ?_⟩
    exact H _ (fun Q2 q => ⟨False, fun z => False.elim z, fun _ => by omega, fun z => nm2 z, fun _ => q⟩)
