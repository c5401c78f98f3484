/-! THE MODEL'S CIRCLES: a matrix of 64 truth values, closed over its names -/
def gq_pass (A B : Int → Int) (b k : Int) : Prop := ∀ x, 0 ≤ x → x < 64 → (x < k → (B x = 0 ∨ B x = 1) ∧ (B x ≠ 0 ↔ A x ≠ 0 ∨ (A (x / 8 * 8 + b) ≠ 0 ∧ A (8 * b + x % 8) ≠ 0))) ∧ (k ≤ x → B x = A x)
theorem gq_pass_0 {A : Int → Int} {b : Int} : gq_pass A A b 0 := fun x x0 _ => ⟨fun z => by omega, fun _ => rfl⟩
theorem gq_pass_s {A B : Int → Int} {b k : Int} (b0 : 0 ≤ b) (b1 : b < 8) (k0 : 0 ≤ k) (k1 : k < 64) (h : gq_pass A B b k) : gq_pass A (gm_upd B k (if ¬ B k = 0 ∨ ¬ B (k / 8 * 8 + b) = 0 ∧ ¬ B (8 * b + k % 8) = 0 then 1 else 0)) b (k + 1) := by
  intro x x0 x1
  have e1 : B (k / 8 * 8 + b) ≠ 0 ↔ A (k / 8 * 8 + b) ≠ 0 := by
    have hx := h (k / 8 * 8 + b) (by omega) (by omega)
    by_cases c : k / 8 * 8 + b < k
    · rw [(hx.1 c).2]
      have e : (k / 8 * 8 + b) / 8 * 8 + b = k / 8 * 8 + b := by omega
      rw [e]
      exact ⟨fun z => z.elim id (fun y => y.1), Or.inl⟩
    · rw [hx.2 (by omega)]
  have e2 : B (8 * b + k % 8) ≠ 0 ↔ A (8 * b + k % 8) ≠ 0 := by
    have hx := h (8 * b + k % 8) (by omega) (by omega)
    by_cases c : 8 * b + k % 8 < k
    · rw [(hx.1 c).2]
      have e : 8 * b + (8 * b + k % 8) % 8 = 8 * b + k % 8 := by omega
      rw [e]
      exact ⟨fun z => z.elim id (fun y => y.2), Or.inl⟩
    · rw [hx.2 (by omega)]
  have e3 : B k = A k := (h k k0 k1).2 (Int.le_refl _)
  unfold gm_upd
  by_cases c : x = k
  · subst c
    rw [if_pos rfl]
    refine ⟨fun _ => ⟨gh_ib01, ?_⟩, fun z => by omega⟩
    constructor
    · intro z
      by_cases t : ¬ B x = 0 ∨ ¬ B (x / 8 * 8 + b) = 0 ∧ ¬ B (8 * b + x % 8) = 0
      · rcases t with t | ⟨t1, t2⟩
        · exact Or.inl (by rw [← e3]; exact t)
        · exact Or.inr ⟨e1.mp t1, e2.mp t2⟩
      · rw [if_neg t] at z
        exact absurd rfl z
    · rintro (z | ⟨z1, z2⟩)
      · rw [if_pos (Or.inl (by rw [e3]; exact z))]
        decide
      · rw [if_pos (Or.inr ⟨e1.mpr z1, e2.mpr z2⟩)]
        decide
  · rw [if_neg c]
    have hx := h x x0 x1
    exact ⟨fun z => hx.1 (by omega), fun z => hx.2 (by omega)⟩
/-- closed over the names below b -/
def gq_wt (A : Int → Int) (b : Int) : Prop := ∀ n j i, 0 ≤ n → n < 8 → 0 ≤ j → j < b → 0 ≤ i → i < 8 → A (8 * n + j) ≠ 0 → A (8 * j + i) ≠ 0 → A (8 * n + i) ≠ 0
theorem gq_pass_at {A B : Int → Int} {b : Int} (h : gq_pass A B b 64) {n i : Int} (n0 : 0 ≤ n) (n1 : n < 8) (i0 : 0 ≤ i) (i1 : i < 8) : (B (8 * n + i) = 0 ∨ B (8 * n + i) = 1) ∧ (B (8 * n + i) ≠ 0 ↔ A (8 * n + i) ≠ 0 ∨ (A (8 * n + b) ≠ 0 ∧ A (8 * b + i) ≠ 0)) := by
  have hx := (h (8 * n + i) (by omega) (by omega)).1 (by omega)
  have e1 : (8 * n + i) / 8 * 8 + b = 8 * n + b := by omega
  have e2 : 8 * b + (8 * n + i) % 8 = 8 * b + i := by omega
  rw [e1, e2] at hx
  exact hx
theorem gq_pass_t {A B : Int → Int} {b : Int} (b0 : 0 ≤ b) (b1 : b < 8) (h : gq_pass A B b 64) (ht : gq_wt A b) : gq_wt B (b + 1) := by
  intro a j i a0 a1 j0 j1 i0 i1 z1 z2
  rw [(gq_pass_at h a0 a1 j0 (by omega)).2] at z1
  rw [(gq_pass_at h j0 (by omega) i0 i1).2] at z2
  rw [(gq_pass_at h a0 a1 i0 i1).2]
  by_cases e : j = b
  · subst e
    exact Or.inr ⟨z1.elim id (fun y => y.1), z2.elim id (fun y => y.2)⟩
  · rcases z1 with z1 | ⟨z1, z3⟩
    · rcases z2 with z2 | ⟨z2, z4⟩
      · exact Or.inl (ht a j i a0 a1 j0 (by omega) i0 i1 z1 z2)
      · exact Or.inr ⟨ht a j b a0 a1 j0 (by omega) b0 b1 z1 z2, z4⟩
    · rcases z2 with z2 | ⟨z2, z4⟩
      · exact Or.inr ⟨z1, ht b j i b0 b1 j0 (by omega) i0 i1 z3 z2⟩
      · exact Or.inr ⟨z1, z4⟩
theorem gm_goesOnWith {m : gh_M} {G : gm_G} {Q : Int → Prop} (hG : gm_ok G) (hD : gm_D m G) {E : Int} (hE : ∀ n, 0 ≤ n → n < gm_N G → (m 82 n = 0 ↔ gb E n)) {r d : Int} (r0 : 0 ≤ r) (r1 : r < gm_R G) (d0 : 0 ≤ d) (d1 : d < gm_s G r) (h1 : gm_n G r d ≠ -1 → gm_er G E r 0 d → Q 1) (h2 : ¬ (gm_n G r d ≠ -1 ∧ gm_er G E r 0 d) → Q 0) : w_Model_goesOnWith r d m Q := by
  obtain ⟨p1, p2, p3, p4, p5⟩ := hG.2.2.2.2.1 r r0 r1
  have hR := hG.2.2.2.1
  have hN := hG.2.1
  obtain ⟨a1, a2, a3⟩ := hD.2.2 r r0 r1
  have hp := gm_p_n hG r0 r1 d0 d1
  refine ⟨by omega, by omega, by omega, by omega, ?_⟩
  rintro _ rfl
  rw [a3 d d0 d1]
  refine ⟨fun g k => 0 ≤ k ∧ k ≤ gm_s G r ∧ (g = 0 ∨ g = 1) ∧ (g ≠ 0 ↔ gm_n G r d ≠ -1 ∧ ∀ e, 0 ≤ e → e < k → e ≠ d → gm_n G r e ≠ -1 ∧ gb E (gm_n G r e)), fun _ k => (10 - k).toNat, ⟨by omega, by omega, gh_ib01, ?_⟩, ?_⟩
  · by_cases c : gm_p G r d < 0
    · rw [if_pos c]
      exact ⟨fun _ => ⟨by omega, fun e x y => by omega⟩, fun _ => by decide⟩
    · rw [if_neg c]
      exact ⟨fun z => absurd rfl z, fun z => by omega⟩
  rintro g k ⟨k0, k1, hg, hg2⟩
  unfold f_Model_goesOnWith_22
  rw [a2]
  refine ⟨r0, by omega, fun c => ?_, fun c => ⟨hg, ?_⟩⟩
  · have hk := gm_p_n hG r0 r1 k0 c
    rw [a3 k k0 c]
    refine ⟨fun _ _ => ⟨by omega, by omega, by omega, by omega, fun _ => ⟨by omega, by omega, by omega, by omega, by omega, by omega, by omega⟩⟩, ?_⟩
    rintro _ rfl
    have cnd : k ≠ d → ((gm_p G r k < 0 ∧ m 82 (-1 - gm_p G r k) = 0) ↔ (gm_n G r k ≠ -1 ∧ gb E (gm_n G r k))) := fun _ => by
      rcases hk with ⟨q1, q2, q3, q4⟩ | ⟨q1, q2, q3⟩
      · rw [← q2, hE _ q3 q4]
        exact ⟨fun y => ⟨by omega, y.2⟩, fun y => ⟨q1, y.2⟩⟩
      · exact ⟨fun y => by omega, fun y => absurd q3 y.1⟩
    refine ⟨by omega, ⟨by omega, by omega, gh_ib01, ?_⟩, by (try dsimp only); omega⟩
    constructor
    · intro z
      by_cases t : ¬ g = 0 ∧ (k = d ∨ gm_p G r k < 0 ∧ m 82 (-1 - gm_p G r k) = 0)
      · obtain ⟨u1, u2⟩ := hg2.mp t.1
        refine ⟨u1, fun e e0 e1 e2 => ?_⟩
        by_cases q : e = k
        · subst q
          exact (cnd e2).mp (t.2.elim (fun y => absurd y e2) id)
        · exact u2 e e0 (by omega) e2
      · rw [if_neg t] at z
        exact absurd rfl z
    · rintro ⟨u1, u2⟩
      have cc : k = d ∨ gm_p G r k < 0 ∧ m 82 (-1 - gm_p G r k) = 0 := by
        by_cases q : k = d
        · exact Or.inl q
        · exact Or.inr ((cnd q).mpr (u2 k k0 (by omega) q))
      rw [if_pos ⟨hg2.mpr ⟨u1, fun e e0 e1 e2 => u2 e e0 (by omega) e2⟩, cc⟩]
      decide
  · by_cases z : g = 0
    · rw [z]
      refine h2 (fun y => ?_)
      exact hg2.mpr ⟨y.1, fun e e0 e1 e2 => y.2 e e0 (by omega) e2⟩ z
    · obtain ⟨u1, u2⟩ := hg2.mp z
      have : g = 1 := by omega
      rw [this]
      exact h1 u1 (fun e e0 e1 e2 => u2 e e0 (by omega) e2)
theorem gm_mCircles {m : gh_M} {G : gm_G} {Q : Int → gh_M → Prop} (hG : gm_ok G) (hD : gm_D m G) {E : Int} {T : Int → Int} (hE : ∀ n, 0 ≤ n → n < gm_N G → (m 82 n = 0 ↔ gb E n)) (t1 : ∀ n, 0 ≤ n → n < gm_N G → gbs (gm_N G).toNat (T n)) (t2 : gm_tcp (gm_N G) (gm_ob G E (gm_R G) 0) T) (h : ∀ m1, gx [88] m m1 → (∀ n i, 0 ≤ n → n < gm_N G → 0 ≤ i → i < gm_N G → (m1 88 (8 * n + i) = 0 ∨ m1 88 (8 * n + i) = 1) ∧ (m1 88 (8 * n + i) ≠ 0 ↔ gb (T n) i)) → Q 0 m1) : w_Model_findCircles m Q := by
  have hN0 := hG.1
  have hN := hG.2.1
  have hR0 := hG.2.2.1
  have hR := hG.2.2.2.1
  refine ⟨fun k m1 => 0 ≤ k ∧ k ≤ 64 ∧ gx [88] m m1 ∧ ∀ i, 0 ≤ i → i < k → m1 88 i = 0, fun k _ => (100 - k).toNat, ⟨Int.le_refl _, by omega, gx_rf, fun i a b => by omega⟩, ?_⟩
  rintro k m1 ⟨k0, k1, hx, hi⟩
  unfold f_Model_findCircles_2
  refine ⟨fun c => ⟨by omega, by omega, by omega, ⟨by omega, by omega, gx_u hx (List.mem_singleton.mpr rfl), fun i i0 i1 => ?_⟩, by (try dsimp only); omega⟩, fun c => ?_⟩
  · by_cases e : i = k
    · rw [e, gh_u_s]
    · rw [gh_u_i e]
      exact hi i i0 (by omega)
  refine ⟨fun r m2 => 0 ≤ r ∧ r ≤ gm_R G ∧ gx [88] m m2 ∧ ∀ n i, 0 ≤ n → n < 8 → 0 ≤ i → i < 8 → (m2 88 (8 * n + i) = 0 ∨ m2 88 (8 * n + i) = 1) ∧ (m2 88 (8 * n + i) ≠ 0 ↔ gm_ob G E r 0 n i), fun r _ => (30 - r).toNat, ⟨by omega, by omega, hx, fun n i n0 n1 i0 i1 => ?_⟩, ?_⟩
  · rw [hi _ (by omega) (by omega)]
    exact ⟨Or.inl rfl, fun z => absurd rfl z, fun z => absurd z gm_ob_0⟩
  rintro r m2 ⟨r0, r1, hx2, hn2⟩
  have cm2 := gm_D_x hx2 (by decide) hD
  unfold f_Model_findCircles_23
  rw [cm2.2.1]
  refine ⟨fun c2 => ?_, fun c2 => ?_⟩
  · obtain ⟨p1, p2, p3, p4, p5⟩ := hG.2.2.2.2.1 r r0 c2
    refine ⟨fun d m3 => 0 ≤ d ∧ d ≤ gm_s G r ∧ gx [88] m m3 ∧ ∀ n i, 0 ≤ n → n < 8 → 0 ≤ i → i < 8 → (m3 88 (8 * n + i) = 0 ∨ m3 88 (8 * n + i) = 1) ∧ (m3 88 (8 * n + i) ≠ 0 ↔ gm_ob G E r d n i), fun d _ => (10 - d).toNat, ⟨by omega, by omega, hx2, hn2⟩, ?_⟩
    rintro d m3 ⟨d0, d1, hx3, hn3⟩
    have cm3 := gm_D_x hx3 (by decide) hD
    have e82 : m3 82 = m 82 := hx3 82 (by decide)
    obtain ⟨a1, a2, a3⟩ := cm3.2.2 r r0 c2
    unfold f_Model_findCircles_33
    rw [a2, a1]
    refine ⟨r0, by omega, fun c3 => ?_, fun c3 => ⟨by omega, ⟨by omega, by omega, hx3, fun n i n0 n1 i0 i1 => ?_⟩, by (try dsimp only); omega⟩⟩
    · have hp := gm_p_n hG r0 c2 d0 c3
      rw [a3 d d0 c3]
      refine gm_goesOnWith (E := E) hG cm3 (by rw [e82]; exact hE) r0 c2 d0 c3 (fun z1 z2 => ?_) (fun z => ?_)
      · refine ⟨fun m4 => m4 = gh_u m3 88 (8 * gm_o G r + gm_n G r d) 1, ?_, fun y => absurd y (by decide), fun _ => ⟨by omega, by omega, by omega, by omega, by omega, by omega, by omega, by omega, by omega, by omega, by omega, ?_⟩⟩
        · rintro _ rfl
          refine ⟨by omega, ⟨by omega, by omega, gx_u hx3 (List.mem_singleton.mpr rfl), fun n i n0 n1 i0 i1 => ?_⟩, by (try dsimp only); omega⟩
          rw [gm_ob_s r0 d0 c3]
          by_cases e : 8 * n + i = 8 * gm_o G r + gm_n G r d
          · rw [e, gh_u_s]
            exact ⟨Or.inr rfl, fun _ => Or.inr ⟨by omega, by omega, z2⟩, fun _ => by decide⟩
          · rw [gh_u_i e]
            refine ⟨(hn3 n i n0 n1 i0 i1).1, ?_⟩
            rw [(hn3 n i n0 n1 i0 i1).2]
            exact ⟨Or.inl, fun y => y.elim id (fun w => by omega)⟩
        · have e : (8 * gm_o G r - 1) - gm_p G r d = 8 * gm_o G r + gm_n G r d := by omega
          rw [e]
      · refine ⟨fun m4 => m4 = m3, ?_, fun _ => rfl, fun y => absurd rfl y⟩
        rintro _ rfl
        refine ⟨by omega, ⟨by omega, by omega, hx3, fun n i n0 n1 i0 i1 => ?_⟩, by (try dsimp only); omega⟩
        refine ⟨(hn3 n i n0 n1 i0 i1).1, ?_⟩
        rw [(hn3 n i n0 n1 i0 i1).2, gm_ob_s r0 d0 c3]
        exact ⟨Or.inl, fun y => y.elim id (fun w => absurd ⟨by omega, w.2.2⟩ z)⟩
    · refine ⟨(hn3 n i n0 n1 i0 i1).1, ?_⟩
      rw [(hn3 n i n0 n1 i0 i1).2]
      exact gm_ob_n r0 (by omega)
  have e : r = gm_R G := by omega
  subst e
  have snd : ∀ n i, 0 ≤ n → n < 8 → 0 ≤ i → i < 8 → m2 88 (8 * n + i) ≠ 0 → n < gm_N G ∧ i < gm_N G ∧ gb (T n) i := fun n i n0 n1 i0 i1 z => by
    have w := (hn2 n i n0 n1 i0 i1).2.mp z
    obtain ⟨q, e, q0, q1, q2, e0, e1, e2, e3⟩ := id w
    have q3 : q < gm_R G := by omega
    have y := gm_n_rng hG q0 q3 e0 e1
    have y2 := (hG.2.2.2.2.1 q q0 q3).2.1
    have n2 : n < gm_N G := by omega
    exact ⟨n2, by omega, t2.1 n i n0 n2 i0 w⟩
  refine ⟨fun b m3 => 0 ≤ b ∧ b ≤ gm_N G ∧ gx [88] m m3 ∧ (∀ n i, 0 ≤ n → n < 8 → 0 ≤ i → i < 8 → (m3 88 (8 * n + i) = 0 ∨ m3 88 (8 * n + i) = 1) ∧ (m3 88 (8 * n + i) ≠ 0 → n < gm_N G ∧ i < gm_N G ∧ gb (T n) i) ∧ (gm_ob G E (gm_R G) 0 n i → m3 88 (8 * n + i) ≠ 0)) ∧ gq_wt (m3 88) b, fun b _ => (30 - b).toNat, ⟨by omega, by omega, hx2, fun n i n0 n1 i0 i1 => ⟨(hn2 n i n0 n1 i0 i1).1, snd n i n0 n1 i0 i1, (hn2 n i n0 n1 i0 i1).2.mpr⟩, fun n j i _ _ x y => by omega⟩, ?_⟩
  rintro b m3 ⟨b0, b1, hx3, hn3, ht3⟩
  have cm3 := gm_D_x hx3 (by decide) hD
  unfold f_Model_findCircles_94
  rw [cm3.1]
  refine ⟨fun c3 => ?_, fun c3 => ?_⟩
  · refine ⟨fun k m4 => 0 ≤ k ∧ k ≤ 64 ∧ gx [88] m m4 ∧ gq_pass (m3 88) (m4 88) b k, fun k _ => (100 - k).toNat, ⟨by omega, by omega, hx3, gq_pass_0⟩, ?_⟩
    rintro k m4 ⟨k0, k1, hx4, hp4⟩
    unfold f_Model_findCircles_104
    refine ⟨fun c4 => ⟨by omega, by omega, fun _ => ⟨by omega, by omega, by omega, by omega, by omega, fun _ => ⟨by omega, by omega, by omega, by omega, by omega⟩⟩, by omega, by omega, by omega, ⟨by omega, by omega, gx_u hx4 (List.mem_singleton.mpr rfl), ?_⟩, by (try dsimp only); omega⟩, fun c4 => ⟨by omega, ⟨by omega, by omega, hx4, fun n i n0 n1 i0 i1 => ?_, ?_⟩, by (try dsimp only); omega⟩⟩
    · rw [gm_u_rowa]
      exact gq_pass_s b0 (by omega) k0 c4 hp4
    · have e : k = 64 := by omega
      subst e
      obtain ⟨a1, a2⟩ := gq_pass_at hp4 n0 n1 i0 i1
      obtain ⟨c1, c2, c3⟩ := hn3 n i n0 n1 i0 i1
      refine ⟨a1, fun z => ?_, fun z => a2.mpr (Or.inl (c3 z))⟩
      rcases a2.mp z with z | ⟨z1, z2⟩
      · exact c2 z
      · obtain ⟨u1, u2, u3⟩ := (hn3 n b n0 n1 b0 (by omega)).2.1 z1
        obtain ⟨v1, v2, v3⟩ := (hn3 b i b0 (by omega) i0 i1).2.1 z2
        exact ⟨u1, v2, t2.2.1 n b i n0 u1 b0 u2 i0 u3 v3⟩
    · have e : k = 64 := by omega
      subst e
      exact gq_pass_t b0 (by omega) hp4 ht3
  · have e : b = gm_N G := by omega
    subst e
    refine h m3 hx3 (fun n i n0 n1 i0 i1 => ⟨(hn3 n i n0 (by omega) i0 (by omega)).1, fun z => ((hn3 n i n0 (by omega) i0 (by omega)).2.1 z).2.2, fun z => ?_⟩)
    refine (t2.2.2 (fun n i => i < gm_N G → m3 88 (8 * n + i) ≠ 0) (fun n i n0 n1 i0 z i1 => (hn3 n i n0 (by omega) i0 (by omega)).2.2 z) (fun n j i n0 n1 j0 j1 i0 z1 z2 i1 => ht3 n j i n0 (by omega) j0 j1 i0 (by omega) (z1 j1) (z2 i1)) n i n0 n1 i0 z) i1
