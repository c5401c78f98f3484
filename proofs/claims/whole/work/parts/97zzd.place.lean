/-! CALLS AT A PLACE OF THE TEXT -/
theorem gl_accepts {K b : Int} {m : gh_M} {Q1 : Int → gh_M → Prop} {v : Int} (inv : gl_I K b m) (H : ∀ r m1, m1 1 = m 1 → m1 0 3 = K → (∀ Q2 : Int → gh_M → Prop, (∀ m2, m2 1 = m 1 → gl_I K (b + 1) m2 → Q2 r m2) → w_Model_accepts v m1 Q2) → Q1 r m1) : w_House_accepts v m Q1 := by
  have hK := gl_I_K inv
  by_cases h : m 2 10 = 0
  · have h' : m 63 24 = 0 := by rw [← inv.2.2.1]; exact h
    exact ⟨fun _ => H _ m rfl hK (fun Q2 h2 => ⟨True, fun _ => by rw [if_pos h']; exact h2 m rfl (gl_I_up inv), fun z => absurd h' z.1, fun _ => trivial⟩), fun z => absurd h z⟩
  obtain ⟨G, J⟩ := gl_J_of inv h
  obtain ⟨hG, hC, hD, h24, e50, ht, pl, nm, rl, _⟩ := gl_J_p J
  by_cases hv : ¬ v < 0 ∧ v ≤ m 26 3
  · exact gl_caccepts J hv (fun m1 J1 => H _ m1 J1.2.2.2.2.2.2.2.2.1 (gl_J_K J1) (fun Q2 h2 => gl_maccepts J1 hv (fun m2 J2 => h2 m2 J2.2.2.2.2.2.2.2.2.1 (gl_I_of (gl_J_w (by omega) (by omega) J2)))))
  · have npl : ¬ p_Model_isPlace v m := fun z => hv ⟨z.2.1, by rw [← e50]; exact z.2.2⟩
    exact ⟨fun z => absurd z h, fun _ => ⟨fun z => absurd z hv, fun _ => H _ m rfl hK (fun Q2 h2 => ⟨True, fun _ => by rw [if_neg h24]; exact h2 m rfl (gl_I_up inv), fun z => absurd z.2 npl, fun _ => trivial⟩)⟩⟩
theorem gl_next {K b : Int} {m : gh_M} {Q1 : Int → gh_M → Prop} {v : Int} (inv : gl_I K b m) (H : ∀ r m1, m1 1 = m 1 → m1 0 3 = K → (∀ Q2 : Int → gh_M → Prop, (∀ m2, m2 1 = m 1 → gl_I K (b + 1) m2 → Q2 r m2) → w_Model_next2 v m1 Q2) → Q1 r m1) : w_House_next v m Q1 := by
  have hK := gl_I_K inv
  by_cases h : m 2 10 = 0
  · have h' : m 63 24 = 0 := by rw [← inv.2.2.1]; exact h
    exact ⟨fun _ => H _ m rfl hK (fun Q2 h2 => ⟨True, fun _ => by rw [if_pos h']; exact h2 m rfl (gl_I_up inv), fun z => absurd h' z.1, fun _ => trivial⟩), fun z => absurd h z⟩
  obtain ⟨G, J⟩ := gl_J_of inv h
  obtain ⟨hG, hC, hD, h24, e50, ht, pl, nm, rl, _⟩ := gl_J_p J
  by_cases hv : ¬ v < 0 ∧ v ≤ m 26 3
  · exact gl_cnext J hv (fun m1 r J1 hr => H _ m1 J1.2.2.2.2.2.2.2.2.1 (gl_J_K J1) (fun Q2 h2 => gl_mnextv J1 hv hr (fun m2 J2 => h2 m2 J2.2.2.2.2.2.2.2.2.1 (gl_I_of (gl_J_w (by omega) (by omega) J2)))))
  · have npl : ¬ p_Model_isPlace v m := fun z => hv ⟨z.2.1, by rw [← e50]; exact z.2.2⟩
    exact ⟨fun z => absurd z h, fun _ => ⟨fun z => absurd z hv, fun _ => H _ m rfl hK (fun Q2 h2 => ⟨True, fun _ => by rw [if_neg h24]; exact h2 m rfl (gl_I_up inv), fun z => absurd z.2 npl, fun _ => trivial⟩)⟩⟩
theorem gl_items {K b : Int} {m : gh_M} {Q1 : Int → gh_M → Prop} {v : Int} (inv : gl_I K b m) (H : ∀ r m1, m1 1 = m 1 → m1 0 3 = K → (∀ Q2 : Int → gh_M → Prop, (∀ m2, m2 1 = m 1 → gl_I K (b + 1) m2 → Q2 r m2) → w_Model_items v m1 Q2) → Q1 r m1) : w_House_items v m Q1 := by
  have hK := gl_I_K inv
  by_cases h : m 2 10 = 0
  · have h' : m 63 24 = 0 := by rw [← inv.2.2.1]; exact h
    exact ⟨fun _ => H _ m rfl hK (fun Q2 h2 => ⟨True, fun _ => by rw [if_pos h']; exact h2 m rfl (gl_I_up inv), fun z => absurd h' z.1, fun _ => trivial⟩), fun z => absurd h z⟩
  obtain ⟨G, J⟩ := gl_J_of inv h
  obtain ⟨hG, hC, hD, h24, e50, ht, pl, nm, rl, _⟩ := gl_J_p J
  by_cases hv : ¬ v < 0 ∧ v ≤ m 26 3
  · exact gl_citems J hv (fun m1 J1 => H _ m1 J1.2.2.2.2.2.2.2.2.1 (gl_J_K J1) (fun Q2 h2 => gl_mitemsv J1 hv (fun m2 J2 => h2 m2 J2.2.2.2.2.2.2.2.2.1 (gl_I_of (gl_J_w (by omega) (by omega) J2)))))
  · have npl : ¬ p_Model_isPlace v m := fun z => hv ⟨z.2.1, by rw [← e50]; exact z.2.2⟩
    exact ⟨fun z => absurd z h, fun _ => ⟨fun z => absurd z hv, fun _ => H _ m rfl hK (fun Q2 h2 => ⟨True, fun _ => by rw [if_neg h24]; exact h2 m rfl (gl_I_up inv), fun z => absurd z.2 npl, fun _ => trivial⟩)⟩⟩
theorem gl_end {K b : Int} {m : gh_M} {Q1 : Int → gh_M → Prop} {v : Int} (inv : gl_I K b m) (H : ∀ r m1, m1 1 = m 1 → m1 0 3 = K → (∀ Q2 : Int → gh_M → Prop, (∀ m2, m2 1 = m 1 → gl_I K (b + 1) m2 → Q2 r m2) → w_Model_end v m1 Q2) → Q1 r m1) : w_House_end v m Q1 := by
  have hK := gl_I_K inv
  by_cases h : m 2 10 = 0
  · have h' : m 63 24 = 0 := by rw [← inv.2.2.1]; exact h
    exact ⟨fun _ => H _ m rfl hK (fun Q2 h2 => ⟨True, fun _ => by rw [if_pos h']; exact h2 m rfl (gl_I_up inv), fun z => absurd h' z.1, fun _ => trivial⟩), fun z => absurd h z⟩
  obtain ⟨G, J⟩ := gl_J_of inv h
  obtain ⟨hG, hC, hD, h24, e50, ht, pl, nm, rl, _⟩ := gl_J_p J
  by_cases hv : ¬ v < 0 ∧ v ≤ m 26 3
  · exact gl_cend J hv (fun m1 r J1 hr => H _ m1 J1.2.2.2.2.2.2.2.2.1 (gl_J_K J1) (fun Q2 h2 => gl_mendv J1 hv hr (fun m2 J2 => h2 m2 J2.2.2.2.2.2.2.2.2.1 (gl_I_of (gl_J_w (by omega) (by omega) J2)))))
  · have npl : ¬ p_Model_isPlace v m := fun z => hv ⟨z.2.1, by rw [← e50]; exact z.2.2⟩
    exact ⟨fun z => absurd z h, fun _ => ⟨fun z => absurd z hv, fun _ => H _ m rfl hK (fun Q2 h2 => ⟨True, fun _ => by rw [if_neg h24]; exact h2 m rfl (gl_I_up inv), fun z => absurd z.2 npl, fun _ => trivial⟩)⟩⟩
theorem gl_properly {K b : Int} {m : gh_M} {Q1 : Int → gh_M → Prop} {v : Int} (inv : gl_I K b m) (H : ∀ r m1, m1 1 = m 1 → m1 0 3 = K → (∀ Q2 : Int → gh_M → Prop, (∀ m2, m2 1 = m 1 → gl_I K (b + 1) m2 → Q2 r m2) → w_Model_properly v m1 Q2) → Q1 r m1) : w_House_properly v m Q1 := by
  have hK := gl_I_K inv
  by_cases h : m 2 10 = 0
  · have h' : m 63 24 = 0 := by rw [← inv.2.2.1]; exact h
    exact ⟨fun _ => H _ m rfl hK (fun Q2 h2 => ⟨fun _ => h2 m rfl (gl_I_up inv), fun z => absurd h' z⟩), fun z => absurd h z⟩
  obtain ⟨G, J⟩ := gl_J_of inv h
  obtain ⟨hG, hC, hD, h24, e50, ht, pl, nm, rl, _⟩ := gl_J_p J
  by_cases hv : ¬ v < 0 ∧ v ≤ m 26 3
  · exact gl_cproperly J hv (fun m1 J1 => H _ m1 J1.2.2.2.2.2.2.2.2.1 (gl_J_K J1) (fun Q2 h2 => gl_mproperlyv J1 hv (fun m2 J2 => h2 m2 J2.2.2.2.2.2.2.2.2.1 (gl_I_of (gl_J_w (by omega) (by omega) J2)))))
  · have npl : ¬ p_Model_isPlace v m := fun z => hv ⟨z.2.1, by rw [← e50]; exact z.2.2⟩
    exact ⟨fun z => absurd z h, fun _ => ⟨fun z => absurd z hv, fun _ => H _ m rfl hK (fun Q2 h2 => ⟨fun z => absurd z h24, fun _ => ⟨fun z => absurd z npl, fun _ => h2 m rfl (gl_I_up inv)⟩⟩)⟩⟩
theorem gl_repair {K b : Int} {m : gh_M} {Q1 : Int → gh_M → Prop} (inv : gl_I K b m) (H : ∀ r m1, m1 1 = m 1 → m1 0 3 = K → (∀ Q2 : Int → gh_M → Prop, (∀ m2, m2 1 = m 1 → gl_I K (b + 1) m2 → Q2 r m2) → w_Model_repair m1 Q2) → Q1 r m1) : w_House_repair m Q1 := by
  have hK := gl_I_K inv
  by_cases h : m 2 10 = 0
  · have h' : m 63 24 = 0 := by rw [← inv.2.2.1]; exact h
    exact ⟨fun _ => H _ m rfl hK (fun Q2 h2 => ⟨fun _ => h2 m rfl (gl_I_up inv), fun z => absurd h' z⟩), fun z => absurd h z⟩
  obtain ⟨G, J⟩ := gl_J_of inv h
  exact gl_crepair J (fun m1 r J1 hr => H _ m1 J1.2.2.2.2.2.2.2.2.1 (gl_J_K J1) (fun Q2 h2 => gl_mrepairv J1 hr (fun m2 J2 => h2 m2 J2.2.2.2.2.2.2.2.2.1 (gl_I_of (gl_J_w (by omega) (by omega) J2)))))
theorem gl_proper {K b : Int} {m : gh_M} {Q1 : Int → gh_M → Prop} {v : Int} (inv : gl_I K b m) (H : ∀ r m1, m1 1 = m 1 → m1 0 3 = K → gl_I K (b + 1) m1 → (∀ Q2 : Int → Prop, Q2 r → w_Model_proper v m1 Q2) → Q1 r m1) : w_House_proper v m Q1 := by
  have hK := gl_I_K inv
  by_cases hv : ¬ v < 0 ∧ v ≤ 2
  · by_cases h : m 2 10 = 0
    · have h' : m 63 24 = 0 := by rw [← inv.2.2.1]; exact h
      exact ⟨fun _ => ⟨fun _ => H _ m rfl hK (gl_I_up inv) (fun Q2 q => ⟨fun _ => ⟨fun _ => q, fun z => absurd h' z⟩, fun z => absurd hv z⟩), fun z => absurd h z⟩, fun z => absurd hv z⟩
    obtain ⟨G, J⟩ := gl_J_of inv h
    exact gl_cproper J hv (fun m1 r J1 hr => H _ m1 J1.2.2.2.2.2.2.2.2.1 (gl_J_K J1) (gl_I_of (gl_J_w (by omega) (by omega) J1)) (fun Q2 q => gl_mproperv J1 hv hr q))
  · exact ⟨fun z => absurd z hv, fun _ => H _ m rfl hK (gl_I_up inv) (fun Q2 q => ⟨fun z => absurd z hv, fun _ => q⟩)⟩
theorem gl_makes {K b : Int} {m : gh_M} {Q1 : Int → gh_M → Prop} {n i k : Int} (inv : gl_I K b m) (H : ∀ r m1, m1 1 = m 1 → m1 0 3 = K → (∀ Q2 : Int → gh_M → Prop, (∀ m2, m2 1 = m 1 → gl_I K (b + 1) m2 → Q2 r m2) → w_Model_makes n i k m1 Q2) → Q1 r m1) : w_House_makes n i k m Q1 := by
  have hK := gl_I_K inv
  by_cases h : m 2 10 = 0
  · have h' : m 63 24 = 0 := by rw [← inv.2.2.1]; exact h
    refine ⟨True, fun _ => ⟨fun c => ⟨fun _ => ?_, fun z => absurd h z⟩, fun c => ?_⟩, fun _ => trivial, fun z => absurd (Or.inl h) z⟩
    · exact H _ m rfl hK (fun Q2 h2 => ⟨True, fun _ => ⟨fun _ => ⟨fun _ => h2 m rfl (gl_I_up inv), fun z => absurd h' z⟩, fun z => absurd c z⟩, fun z => absurd h' z, fun _ => trivial, fun z => absurd (Or.inl h') z⟩)
    · exact H _ m rfl hK (fun Q2 h2 => ⟨True, fun _ => ⟨fun z => absurd z c, fun _ => h2 m rfl (gl_I_up inv)⟩, fun z => absurd h' z, fun _ => trivial, fun z => absurd (Or.inl h') z⟩)
  obtain ⟨G, J⟩ := gl_J_of inv h
  obtain ⟨hG, hC, hD, h24, e50, ht, pl, nm, rl, _⟩ := gl_J_p J
  have hN0 := hG.1
  have hN := hG.2.1
  have kN : k_Model_isName n m := fun _ => by
    rw [hD.1]
    omega
  by_cases ok : p_House_isName n m ∧ p_House_isPlace i m ∧ p_House_isPlace k m
  · have okm : m 63 24 = 0 ∨ p_Model_isName n m ∧ p_Model_isPlace i m ∧ p_Model_isPlace k m := Or.inr ⟨nm n ⟨ok.1.1, by rw [← hC.1]; exact ok.1.2⟩, pl i ok.2.1, pl k ok.2.2⟩
    have hn : ¬ n < 0 ∧ n < gm_N G := ⟨ok.1.1, by rw [← hC.1]; exact ok.1.2⟩
    refine ⟨True, fun _ => ⟨fun c => ⟨fun z => absurd z h, fun _ => ?_⟩, fun c => ?_⟩, fun _ => trivial, fun z => absurd (Or.inr ok) z⟩
    · refine gl_cmakes J hn ok.2.1 ok.2.2 (fun m1 J1 => ?_)
      obtain ⟨_, _, hD1, e24, _, _, pl1, nm1, _, f26, _⟩ := gl_J_p J1
      refine H _ m1 J1.2.2.2.2.2.2.2.2.1 (gl_J_K J1) (fun Q2 h2 => ?_)
      exact ⟨True, fun _ => ⟨fun _ => ⟨fun z => absurd z e24, fun _ => gl_mmakes J1 hn ok.2.1 ok.2.2 (fun m2 J2 => h2 m2 J2.2.2.2.2.2.2.2.2.1 (gl_I_of (gl_J_w (by omega) (by omega) J2)))⟩, fun z => absurd c z⟩, fun _ => fun _ => by rw [hD1.1]; omega, fun _ => trivial, fun z => absurd (Or.inr ⟨nm1 n hn, pl1 i (by rw [f26]; exact ok.2.1), pl1 k (by rw [f26]; exact ok.2.2)⟩) z⟩
    · exact H _ m rfl hK (fun Q2 h2 => ⟨True, fun _ => ⟨fun z => absurd z c, fun _ => h2 m rfl (gl_I_up inv)⟩, fun _ => kN, fun _ => trivial, fun z => absurd okm z⟩)
  · have nok : ¬ (m 63 24 = 0 ∨ p_Model_isName n m ∧ p_Model_isPlace i m ∧ p_Model_isPlace k m) := fun z => by
      rcases z with z | ⟨⟨_, z1, z2⟩, ⟨_, z3, z4⟩, ⟨_, z5, z6⟩⟩
      · exact h24 z
      · rw [e50] at z4 z6
        rw [hD.1] at z2
        exact ok ⟨⟨z1, by rw [hC.1]; omega⟩, ⟨z3, z4⟩, ⟨z5, z6⟩⟩
    refine ⟨False, fun z => False.elim z, fun z => z.elim h ok, fun _ => ?_⟩
    exact H _ m rfl hK (fun Q2 h2 => ⟨False, fun z => False.elim z, fun _ => kN, fun z => nok z, fun _ => h2 m rfl (gl_I_up inv)⟩)
theorem gl_isItem {K b : Int} {m : gh_M} {Q1 : Int → gh_M → Prop} {r d i k : Int} (inv : gl_I K b m) (H : ∀ v m1, m1 1 = m 1 → m1 0 3 = K → (∀ Q2 : Int → gh_M → Prop, (∀ m2, m2 1 = m 1 → gl_I K (b + 1) m2 → Q2 v m2) → w_Model_isItem r d i k m1 Q2) → Q1 v m1) : w_House_isItem r d i k m Q1 := by
  have hK := gl_I_K inv
  by_cases h : m 2 10 = 0
  · have h' : m 63 24 = 0 := by rw [← inv.2.2.1]; exact h
    by_cases d0 : ¬ d < 0
    · refine ⟨True, fun _ => ⟨fun _ z => absurd h z, fun _ => ⟨fun _ => ?_, fun z => absurd h z⟩, fun z => absurd ⟨d0, Or.inl h⟩ z⟩, fun _ => trivial, fun z => absurd (Or.inl h) z⟩
      exact H _ m rfl hK (fun Q2 h2 => ⟨True, fun _ => ⟨fun _ z => absurd h' z, fun _ => ⟨fun _ => h2 m rfl (gl_I_up inv), fun z => absurd h' z⟩, fun z => absurd ⟨d0, Or.inl h'⟩ z⟩, fun z => absurd h' z, fun _ => trivial, fun z => absurd (Or.inl h') z⟩)
    · refine ⟨True, fun _ => ⟨fun _ z => absurd h z, fun z => absurd z.1 d0, fun _ => ?_⟩, fun _ => trivial, fun z => absurd (Or.inl h) z⟩
      exact H _ m rfl hK (fun Q2 h2 => ⟨True, fun _ => ⟨fun _ z => absurd h' z, fun z => absurd z.1 d0, fun _ => h2 m rfl (gl_I_up inv)⟩, fun z => absurd h' z, fun _ => trivial, fun z => absurd (Or.inl h') z⟩)
  obtain ⟨G, J⟩ := gl_J_of inv h
  obtain ⟨hG, hC, hD, h24, e50, ht, pl, nm, rl, _⟩ := gl_J_p J
  have hR0 := hG.2.2.1
  have hR := hG.2.2.2.1
  have kN : k_Model_isRule r m := fun _ => by
    rw [hD.2.1]
    omega
  by_cases ok : p_House_isRule r m ∧ p_House_isPlace i m ∧ p_House_isPlace k m
  · have hr : ¬ r < 0 ∧ r < gm_R G := ⟨ok.1.1, by rw [← hC.2.1]; exact ok.1.2⟩
    have okm : m 63 24 = 0 ∨ p_Model_isRule r m ∧ p_Model_isPlace i m ∧ p_Model_isPlace k m := Or.inr ⟨rl r hr, pl i ok.2.1, pl k ok.2.2⟩
    have e17 := (hC.2.2 r (by omega) hr.2).2.1
    have e80 := (hD.2.2 r (by omega) hr.2).2.1
    by_cases hd : ¬ d < 0 ∧ d ≤ gm_s G r
    · refine ⟨True, fun _ => ⟨fun _ _ => by omega, fun _ => ⟨fun z => absurd z h, fun _ => ?_⟩, fun z => absurd ⟨hd.1, Or.inr (by rw [e17]; exact hd.2)⟩ z⟩, fun _ => trivial, fun z => absurd (Or.inr ok) z⟩
      refine gl_cisItem J hr hd ok.2.1 ok.2.2 (fun m1 J1 => ?_)
      obtain ⟨_, _, hD1, e24, _, _, pl1, _, rl1, f26, _⟩ := gl_J_p J1
      refine H _ m1 J1.2.2.2.2.2.2.2.2.1 (gl_J_K J1) (fun Q2 h2 => ?_)
      exact ⟨True, fun _ => ⟨fun _ _ => by omega, fun _ => ⟨fun z => absurd z e24, fun _ => gl_misItem J1 hr hd ok.2.1 ok.2.2 (fun m2 J2 => h2 m2 J2.2.2.2.2.2.2.2.2.1 (gl_I_of (gl_J_w (by omega) (by omega) J2)))⟩, fun z => absurd ⟨hd.1, Or.inr (by rw [(hD1.2.2 r (by omega) hr.2).2.1]; exact hd.2)⟩ z⟩, fun _ => fun _ => by rw [hD1.2.1]; omega, fun _ => trivial, fun z => absurd (Or.inr ⟨rl1 r hr, pl1 i (by rw [f26]; exact ok.2.1), pl1 k (by rw [f26]; exact ok.2.2)⟩) z⟩
    · refine ⟨True, fun _ => ⟨fun _ _ => by omega, fun z => ?_, fun _ => ?_⟩, fun _ => trivial, fun z => absurd (Or.inr ok) z⟩
      · rcases z.2 with y | y
        · exact absurd y h
        · exact absurd ⟨z.1, by rw [← e17]; exact y⟩ hd
      · refine H _ m rfl hK (fun Q2 h2 => ⟨True, fun _ => ⟨fun _ _ => by omega, fun z => ?_, fun _ => h2 m rfl (gl_I_up inv)⟩, fun _ => kN, fun _ => trivial, fun z => absurd okm z⟩)
        rcases z.2 with y | y
        · exact absurd y h24
        · exact absurd ⟨z.1, by rw [← e80]; exact y⟩ hd
  · have nok : ¬ (m 63 24 = 0 ∨ p_Model_isRule r m ∧ p_Model_isPlace i m ∧ p_Model_isPlace k m) := fun z => by
      rcases z with z | ⟨⟨_, z1, z2⟩, ⟨_, z3, z4⟩, ⟨_, z5, z6⟩⟩
      · exact h24 z
      · rw [e50] at z4 z6
        rw [hD.2.1] at z2
        exact ok ⟨⟨z1, by rw [hC.2.1]; omega⟩, ⟨z3, z4⟩, ⟨z5, z6⟩⟩
    refine ⟨False, fun z => False.elim z, fun z => z.elim h ok, fun _ => ?_⟩
    exact H _ m rfl hK (fun Q2 h2 => ⟨False, fun z => False.elim z, fun _ => kN, fun z => nok z, fun _ => h2 m rfl (gl_I_up inv)⟩)
