/-! READING: the model's tokens, and names -/
def gr_mt (T : Int → Int) (c : Int) (m : gh_M) : Prop := m 63 1 = c ∧ 0 ≤ c ∧ c ≤ 240 ∧ (∀ k, 0 ≤ k → k < c → m 64 k = T k ∧ 32 ≤ T k ∧ T k ≤ 126)
theorem gr_mt_x {T : Int → Int} {c : Int} {m m2 : gh_M} (h1 : m2 63 1 = m 63 1) (h2 : m2 64 = m 64) (h : gr_mt T c m) : gr_mt T c m2 := by
  unfold gr_mt
  rw [h1, h2]
  exact h
theorem gr_msig {T : Int → Int} {c : Int} {m : gh_M} (h : gr_mt T c m) (v : Int) : k_Model_signAt v m ∧ (0 ≤ v → v < c → x_Model_signAt v m = T v) ∧ (¬ (0 ≤ v ∧ v < c) → x_Model_signAt v m = 0) := by
  obtain ⟨h1, h2, h3, h4⟩ := h
  unfold k_Model_signAt x_Model_signAt
  rw [h1]
  refine ⟨⟨by omega, fun a => by omega⟩, fun a b => ?_, fun a => ?_⟩
  · rw [if_pos ⟨by omega, by omega⟩]
    exact (h4 v a b).1
  · rw [if_neg (fun y => a ⟨by omega, by omega⟩)]
theorem gr_ms_in {T : Int → Int} {c : Int} {m : gh_M} (h : gr_mt T c m) {lo hi v : Int} (lo0 : 0 < lo) : (lo ≤ x_Model_signAt v m ∧ x_Model_signAt v m ≤ hi) ↔ gr_in T c lo hi v := by
  obtain ⟨_, a, b⟩ := gr_msig h v
  unfold gr_in
  by_cases q : 0 ≤ v ∧ v < c
  · rw [a q.1 q.2]
    exact ⟨fun y => ⟨q.1, q.2, y⟩, fun y => y.2.2⟩
  · rw [b q]
    exact ⟨fun y => by omega, fun y => absurd ⟨y.1, y.2.1⟩ q⟩
theorem gr_nameLength {T : Int → Int} {c pl d : Int} {m : gh_M} {Q : Int → Prop} (h : gr_mt T c m) (pl0 : 0 ≤ pl) (plc : pl < c) (hd : gr_ln (gr_in T c 48 57) (pl + 1) d) (H : Q (d + 1)) : w_Model_nameLength pl m Q := by
  obtain ⟨d0, d1, d2⟩ := hd
  have c240 := h.2.2.1
  refine ⟨fun n => 1 ≤ n ∧ n ≤ d + 1, fun n => (d + 2 - n).toNat, ⟨Int.le_refl _, by omega⟩, ?_⟩
  rintro n ⟨n0, n1⟩
  have si := gr_ms_in h (lo := 48) (hi := 57) (v := pl + n) (by decide)
  have e : pl + n = pl + 1 + (n - 1) := by omega
  have pn : pl + n ≤ 241 := by
    by_cases q : n = 1
    · omega
    · have := d1 (n - 2) (by omega) (by omega)
      unfold gr_in at this
      omega
  unfold f_Model_nameLength_2
  refine ⟨by omega, (gr_msig h _).1, fun t => ?_, fun t => ?_⟩
  · have i := si.mp ⟨by omega, t.2⟩
    have : n < d + 1 := by
      by_cases q : n = d + 1
      · rw [e, q] at i
        have e2 : d + 1 - 1 = d := by omega
        rw [e2] at i
        exact absurd i d2
      · omega
    exact ⟨by omega, ⟨by omega, by omega⟩, by (try dsimp only); omega⟩
  · have : n = d + 1 := by
      by_cases q : n = d + 1
      · exact q
      · have := d1 (n - 1) (by omega) (by omega)
        rw [← e] at this
        have := si.mpr this
        exact absurd ⟨by omega, this.2⟩ t
    rw [this]
    exact H
theorem gr_smallsFrom {T : Int → Int} {c pl d : Int} {m : gh_M} {Q : Int → Prop} (h : gr_mt T c m) (pl0 : 0 ≤ pl) (plc : pl ≤ c) (hd : gr_ln (gr_in T c 97 122) pl d) (H : Q d) : w_Model_smallsFrom pl m Q := by
  obtain ⟨d0, d1, d2⟩ := hd
  have c240 := h.2.2.1
  refine ⟨fun n => 0 ≤ n ∧ n ≤ d, fun n => (d + 2 - n).toNat, ⟨Int.le_refl _, d0⟩, ?_⟩
  rintro n ⟨n0, n1⟩
  have si := gr_ms_in h (lo := 97) (hi := 122) (v := pl + n) (by decide)
  have pn : pl + n ≤ 241 := by
    by_cases q : n = 0
    · omega
    · have := d1 (n - 1) (by omega) (by omega)
      unfold gr_in at this
      omega
  unfold f_Model_smallsFrom_2
  refine ⟨by omega, (gr_msig h _).1, fun t => ?_, fun t => ?_⟩
  · have : n = d := by
      by_cases q : n = d
      · exact q
      · have := si.mpr (d1 n n0 (by omega))
        rw [if_pos ⟨by omega, this.2⟩] at t
        exact absurd t (by decide)
    rw [this]
    exact H
  · have i : gr_in T c 97 122 (pl + n) := by
      by_cases q : ¬ x_Model_signAt (pl + n) m < 97 ∧ x_Model_signAt (pl + n) m ≤ 122
      · exact si.mp ⟨by omega, q.2⟩
      · rw [if_neg q] at t
        exact absurd rfl t
    have : n < d := by
      by_cases q : n = d
      · rw [q] at i
        exact absurd i d2
      · omega
    exact ⟨by omega, ⟨by omega, by omega⟩, by (try dsimp only); omega⟩
theorem gr_ln_x {T : Int → Int} {c lo hi : Int} (b : Int) (b0 : 0 ≤ b) : ∃ n, gr_ln (gr_in T c lo hi) b n := by
  have key : ∀ (k : Nat) (b : Int), 0 ≤ b → c - b ≤ k → ∃ n, gr_ln (gr_in T c lo hi) b n := by
    intro k
    induction k with
    | zero =>
      intro b b0 h
      refine ⟨0, Int.le_refl _, fun x a b => by omega, fun y => ?_⟩
      unfold gr_in at y
      omega
    | succ k ih =>
      intro b b0 h
      by_cases q : gr_in T c lo hi b
      · obtain ⟨n, a1, a2, a3⟩ := ih (b + 1) (by omega) (by omega)
        refine ⟨n + 1, by omega, fun x x0 x1 => ?_, ?_⟩
        · by_cases u : x = 0
          · rw [u, Int.add_zero]
            exact q
          · have := a2 (x - 1) (by omega) (by omega)
            have e : b + 1 + (x - 1) = b + x := by omega
            rw [e] at this
            exact this
        · have e : b + (n + 1) = b + 1 + n := by omega
          rw [e]
          exact a3
      · exact ⟨0, Int.le_refl _, fun x a b => by omega, by rw [Int.add_zero]; exact q⟩
  exact key (c - b).toNat b b0 (by omega)
theorem gr_next {T : Int → Int} {c b : Int} {m : gh_M} {Q : Int → gh_M → Prop} (h : gr_mt T c m) (b0 : 0 ≤ b) (bc : b ≤ c) (hb : m 63 4 = b) (H : ∀ m2 pl kd si e, gr_tk T c b pl kd si e → gx [63] m m2 → (∀ y, y ≠ 4 → y ≠ 5 → y ≠ 6 → y ≠ 7 → m2 63 y = m 63 y) → m2 63 4 = e → m2 63 5 = kd → m2 63 6 = pl → m2 63 7 = si → Q 0 m2) : w_Model_next m Q := by
  have c240 := h.2.2.1
  unfold w_Model_next
  refine ⟨fun m1 => ∃ n, 0 ≤ n ∧ b + n ≤ c ∧ m1 63 4 = b + n ∧ gx [63] m m1 ∧ (∀ y, y ≠ 4 → m1 63 y = m 63 y) ∧ ∀ x, 0 ≤ x → x < n → gr_in T c 32 32 (b + x), fun m1 => (1000 - m1 63 4).toNat, ⟨0, Int.le_refl _, by omega, by omega, gx_rf, fun _ _ => rfl, fun x a b => by omega⟩, ?_⟩
  rintro m1 ⟨n, n0, n1, e1, hx, o, hn⟩
  have h1 : gr_mt T c m1 := gr_mt_x (o 1 (by decide)) (hx 64 (by decide)) h
  have sa := gr_ms_in h1 (lo := 32) (hi := 32) (v := b + n) (by decide)
  unfold f_Model_next_0
  rw [e1, h1.1]
  refine ⟨(gr_msig h1 _).1, fun t => ⟨by omega, ⟨n + 1, by omega, ?_, by rw [gh_u_s]; omega, gx_u hx (by decide), fun y yn => by rw [gh_u_i yn]; exact o y yn, fun x x0 x1 => ?_⟩, by (try dsimp only); rw [gh_u_s]; omega⟩, fun t => ?_⟩
  · have := sa.mp ⟨by omega, by omega⟩
    unfold gr_in at this
    omega
  · by_cases q : x = n
    · rw [q]
      exact sa.mp ⟨by omega, by omega⟩
    · exact hn x x0 (by omega)
  have ln : gr_ln (gr_in T c 32 32) b n := ⟨n0, hn, fun y => t (by have := sa.mpr y; omega)⟩
  have x2 : gx [63] m1 (gh_u m1 63 6 (b + n)) := gx_one _ _ _ _
  have h2 : gr_mt T c (gh_u m1 63 6 (b + n)) := gr_mt_x (gh_u_i (by decide)) (x2 64 (by decide)) h1
  obtain ⟨ks, s1, s2⟩ := gr_msig h2 (b + n)
  refine ⟨ks, ?_⟩
  intro v1 hv1
  obtain ⟨mm, hmm⟩ : ∃ mm, mm = gh_u (gh_u (gh_u m1 63 6 (b + n)) 63 7 v1) 63 5 0 := ⟨_, rfl⟩
  rw [← hmm]
  have xm : gx [63] m mm := by
    rw [hmm]
    exact gx_u (gx_u (gx_t hx x2) (by decide)) (by decide)
  have om : ∀ y, y ≠ 4 → y ≠ 5 → y ≠ 6 → y ≠ 7 → mm 63 y = m 63 y := fun y a b c d => by
    rw [hmm, gh_u_i b, gh_u_i d, gh_u_i c]
    exact o y a
  have mm6 : mm 63 6 = b + n := by
    rw [hmm, gh_u_i (by decide), gh_u_i (by decide), gh_u_s]
  have mm7 : mm 63 7 = v1 := by
    rw [hmm, gh_u_i (by decide), gh_u_s]
  have mm4 : mm 63 4 = b + n := by
    rw [hmm, gh_u_i (by decide), gh_u_i (by decide), gh_u_i (by decide)]
    exact e1
  have h3 : gr_mt T c mm := gr_mt_x (om 1 (by decide) (by decide) (by decide) (by decide)) (xm 64 (by decide)) h
  clear hmm
  -- the two last cells
  have two : ∀ (kd e : Int), gr_tok T c (b + n) kd v1 e → Q 0 (gh_u (gh_u mm 63 5 kd) 63 4 e) := fun kd e tk => H _ (b + n) kd v1 e ⟨n, ln, rfl, tk⟩ (gx_u (gx_u xm (by decide)) (by decide)) (fun y y4 y5 y6 y7 => by rw [gh_u_i y4, gh_u_i y5]; exact om y y4 y5 y6 y7) (gh_u_s _ _ _ _) (by rw [gh_u_i (by decide), gh_u_s]) (by rw [gh_u_i (by decide), gh_u_i (by decide)]; exact mm6) (by rw [gh_u_i (by decide), gh_u_i (by decide)]; exact mm7)
  refine ⟨fun z => ?_, fun z => ?_⟩
  · -- the end
    have ev : v1 = 0 := hv1.trans (s2 (by omega))
    refine H _ (b + n) 1 v1 (b + n) ⟨n, ln, rfl, Or.inl ⟨by omega, rfl, ev, rfl⟩⟩ (gx_u xm (by decide)) (fun y y4 y5 y6 y7 => by rw [gh_u_i y5]; exact om y y4 y5 y6 y7) (by rw [gh_u_i (by decide)]; exact mm4) (gh_u_s _ _ _ _) (by rw [gh_u_i (by decide)]; exact mm6) (by rw [gh_u_i (by decide)]; exact mm7)
  have pc : b + n < c := by omega
  have ev : v1 = T (b + n) := hv1.trans (s1 (by omega) pc)
  refine ⟨fun q => ?_, fun q => ⟨fun q2 => ?_, fun q2 => ⟨fun q3 => ?_, fun q3 => ?_⟩⟩⟩
  · obtain ⟨d, hd⟩ := gr_ln_x (T := T) (c := c) (lo := 48) (hi := 57) (b + n + 1) (by omega)
    have dl : b + n + 1 + d ≤ 241 := by
      by_cases u : d = 0
      · omega
      · have := hd.2.1 (d - 1) (by have := hd.1; omega) (by omega)
        unfold gr_in at this
        omega
    have d0 := hd.1
    refine gr_nameLength h3 (by omega) pc hd ⟨by omega, ?_⟩
    have e : b + n + (d + 1) = b + n + 1 + d := by omega
    rw [e]
    refine two _ _ (Or.inr ⟨pc, ev, Or.inl ⟨by omega, q.2, d, hd, rfl, ?_⟩⟩)
    by_cases g : d + 1 ≤ 3
    · rw [if_pos g]
      exact Or.inl ⟨by omega, rfl⟩
    · rw [if_neg g]
      exact Or.inr ⟨by omega, rfl⟩
  · obtain ⟨d, hd⟩ := gr_ln_x (T := T) (c := c) (lo := 97) (hi := 122) (b + n + 1) (by omega)
    have dl : b + n + 1 + d ≤ 241 := by
      by_cases u : d = 0
      · omega
      · have := hd.2.1 (d - 1) (by have := hd.1; omega) (by omega)
        unfold gr_in at this
        omega
    have d0 := hd.1
    have s39 := gr_ms_in h3 (lo := 39) (hi := 39) (v := b + n + 1 + d) (by decide)
    refine ⟨by omega, gr_smallsFrom h3 (by omega) (by omega) hd ⟨fun _ => ⟨by omega, by omega, (gr_msig h3 _).1⟩, by omega, by omega, ?_⟩⟩
    have e : b + n + (d + 2) = b + n + d + 2 := by omega
    rw [e]
    refine two _ _ (Or.inr ⟨pc, ev, Or.inr (Or.inl ⟨q2, d, hd, rfl, ?_⟩)⟩)
    by_cases g : 1 ≤ d ∧ d ≤ 3 ∧ gr_in T c 39 39 (b + n + 1 + d)
    · have := s39.mpr g.2.2
      rw [if_pos ⟨by omega, g.2.1⟩, if_pos (by omega)]
      exact Or.inl ⟨g.1, g.2.1, g.2.2, rfl⟩
    · refine Or.inr ⟨g, ?_⟩
      by_cases g1 : ¬ d < 1 ∧ d ≤ 3
      · rw [if_pos g1]
        by_cases g2 : x_Model_signAt (b + n + 1 + d) mm = 39
        · exact absurd ⟨by omega, g1.2, s39.mp ⟨by omega, by omega⟩⟩ g
        · rw [if_neg g2]
      · rw [if_neg g1]
  · -- a class
    have a1 := gr_ms_in h3 (lo := 97) (hi := 122) (v := b + n + 1) (by decide)
    have a2 := gr_ms_in h3 (lo := 45) (hi := 45) (v := b + n + 2) (by decide)
    have a3 := gr_ms_in h3 (lo := 97) (hi := 122) (v := b + n + 3) (by decide)
    have a4 := gr_ms_in h3 (lo := 93) (hi := 93) (v := b + n + 4) (by decide)
    have b1 := gr_msig h3 (b + n + 1)
    have b3 := gr_msig h3 (b + n + 3)
    refine ⟨by omega, b1.1, fun _ => ⟨by omega, (gr_msig h3 _).1, fun _ => ⟨by omega, b3.1, fun _ => ⟨by omega, b3.1, by omega, b1.1, fun _ => ⟨by omega, (gr_msig h3 _).1⟩⟩⟩⟩, ?_⟩
    intro v2 hv2
    have w01 : ∀ v : Int, (¬ (if ¬ x_Model_signAt v mm < 97 ∧ x_Model_signAt v mm ≤ 122 then (1 : Int) else 0) = 0) ↔ (97 ≤ x_Model_signAt v mm ∧ x_Model_signAt v mm ≤ 122) := fun v => by
      by_cases g : ¬ x_Model_signAt v mm < 97 ∧ x_Model_signAt v mm ≤ 122
      · rw [if_pos g]
        exact ⟨fun _ => ⟨by omega, g.2⟩, fun _ => by decide⟩
      · rw [if_neg g]
        exact ⟨fun y => absurd rfl y, fun y => absurd ⟨by omega, y.2⟩ g⟩
    have key : ((97 ≤ x_Model_signAt (b + n + 1) mm ∧ x_Model_signAt (b + n + 1) mm ≤ 122) ∧ x_Model_signAt (b + n + 2) mm = 45 ∧ (97 ≤ x_Model_signAt (b + n + 3) mm ∧ x_Model_signAt (b + n + 3) mm ≤ 122) ∧ ¬ x_Model_signAt (b + n + 3) mm < x_Model_signAt (b + n + 1) mm ∧ x_Model_signAt (b + n + 4) mm = 93) ↔ gr_cls T c (b + n) := by
      unfold gr_cls
      rw [← a1, ← a2, ← a3, ← a4]
      constructor
      · rintro ⟨y1, y2, y3, y4, y5⟩
        have i1 := a1.mp y1
        have i3 := a3.mp y3
        have t1 := b1.2.1 i1.1 i1.2.1
        have t3 := b3.2.1 i3.1 i3.2.1
        exact ⟨y1, ⟨by omega, by omega⟩, y3, by omega, by omega, by omega⟩
      · rintro ⟨y1, y2, y3, y4, y5⟩
        have i1 := a1.mp y1
        have i3 := a3.mp y3
        have t1 := b1.2.1 i1.1 i1.2.1
        have t3 := b3.2.1 i3.1 i3.2.1
        exact ⟨y1, by omega, y3, by omega, by omega⟩
    have key2 : (¬ (if ¬ x_Model_signAt (b + n + 1) mm < 97 ∧ x_Model_signAt (b + n + 1) mm ≤ 122 then (1 : Int) else 0) = 0 ∧ x_Model_signAt (b + n + 2) mm = 45 ∧ ¬ (if ¬ x_Model_signAt (b + n + 3) mm < 97 ∧ x_Model_signAt (b + n + 3) mm ≤ 122 then (1 : Int) else 0) = 0 ∧ ¬ x_Model_signAt (b + n + 3) mm < x_Model_signAt (b + n + 1) mm ∧ x_Model_signAt (b + n + 4) mm = 93) ↔ gr_cls T c (b + n) := by
      rw [w01, w01]
      exact key
    refine ⟨by omega, two _ _ (Or.inr ⟨pc, ev, Or.inr (Or.inr (Or.inl ⟨q3, rfl, ?_⟩))⟩)⟩
    by_cases g : gr_cls T c (b + n)
    · have e : v2 = 1 := hv2.trans (if_pos (key2.mpr g))
      rw [e, if_neg (by decide)]
      exact Or.inl ⟨g, rfl⟩
    · have e : v2 = 0 := hv2.trans (if_neg (fun y => g (key2.mp y)))
      rw [e, if_pos rfl]
      exact Or.inr ⟨g, rfl⟩
  · intro v2 hv2
    have nn' : ¬ (65 ≤ v1 ∧ v1 ≤ 90) := fun y => q ⟨by omega, y.2⟩
    refine ⟨by omega, two _ _ (Or.inr ⟨pc, ev, Or.inr (Or.inr (Or.inr ⟨nn', q2, q3, rfl, ?_⟩))⟩)⟩
    by_cases g : gr_mark v1
    · have e : v2 = 1 := hv2.trans (if_pos g)
      rw [e, if_neg (by decide)]
      exact Or.inl ⟨g, rfl⟩
    · have e : v2 = 0 := hv2.trans (if_neg g)
      rw [e, if_pos rfl]
      exact Or.inr ⟨g, rfl⟩
