/-- the run of signs of a kind from a place on is that long -/
def gr_ln (P : Int → Prop) (b n : Int) : Prop := 0 ≤ n ∧ (∀ x, 0 ≤ x → x < n → P (b + x)) ∧ ¬ P (b + n)
theorem gr_ln_u {P : Int → Prop} {b n n2 : Int} (h : gr_ln P b n) (h2 : gr_ln P b n2) : n = n2 := by
  obtain ⟨a1, a2, a3⟩ := h
  obtain ⟨b1, b2, b3⟩ := h2
  by_cases c : n < n2
  · exact absurd (b2 n a1 c) a3
  · by_cases d : n2 < n
    · exact absurd (a2 n2 b1 d) b3
    · omega
def gr_in (T : Int → Int) (c lo hi k : Int) : Prop := 0 ≤ k ∧ k < c ∧ lo ≤ T k ∧ T k ≤ hi
def gr_mark (s : Int) : Prop := s = 58 ∨ s = 59 ∨ s = 124 ∨ s = 40 ∨ s = 41 ∨ s = 63 ∨ s = 42 ∨ s = 43
def gr_cls (T : Int → Int) (c pl : Int) : Prop := gr_in T c 97 122 (pl + 1) ∧ gr_in T c 45 45 (pl + 2) ∧ gr_in T c 97 122 (pl + 3) ∧ T (pl + 1) ≤ T (pl + 3) ∧ gr_in T c 93 93 (pl + 4)
/-- the token that begins at pl: its kind (0 none, 1 the end, 2 a name, 3 a quote, 4 a class, 5 a mark), its first sign, where it ends -/
def gr_tok (T : Int → Int) (c pl kd si e : Int) : Prop := (c ≤ pl ∧ kd = 1 ∧ si = 0 ∧ e = pl) ∨ (pl < c ∧ si = T pl ∧ ((65 ≤ si ∧ si ≤ 90 ∧ ∃ d, gr_ln (gr_in T c 48 57) (pl + 1) d ∧ e = pl + 1 + d ∧ ((d ≤ 2 ∧ kd = 2) ∨ (2 < d ∧ kd = 0))) ∨ (si = 39 ∧ ∃ d, gr_ln (gr_in T c 97 122) (pl + 1) d ∧ e = pl + d + 2 ∧ ((1 ≤ d ∧ d ≤ 3 ∧ gr_in T c 39 39 (pl + 1 + d) ∧ kd = 3) ∨ (¬ (1 ≤ d ∧ d ≤ 3 ∧ gr_in T c 39 39 (pl + 1 + d)) ∧ kd = 0))) ∨ (si = 91 ∧ e = pl + 5 ∧ ((gr_cls T c pl ∧ kd = 4) ∨ (¬ gr_cls T c pl ∧ kd = 0))) ∨ (¬ (65 ≤ si ∧ si ≤ 90) ∧ si ≠ 39 ∧ si ≠ 91 ∧ e = pl + 1 ∧ ((gr_mark si ∧ kd = 5) ∨ (¬ gr_mark si ∧ kd = 0)))))
theorem gr_tok_u {T : Int → Int} {c pl kd si e kd2 si2 e2 : Int} (h : gr_tok T c pl kd si e) (h2 : gr_tok T c pl kd2 si2 e2) : kd = kd2 ∧ si = si2 ∧ e = e2 := by
  rcases h with ⟨a1, a2, a3, a4⟩ | ⟨a1, a2, a3⟩
  · rcases h2 with ⟨b1, b2, b3, b4⟩ | ⟨b1, b2, b3⟩
    · omega
    · omega
  · rcases h2 with ⟨b1, b2, b3, b4⟩ | ⟨b1, b2, b3⟩
    · omega
    · have es : si = si2 := a2.trans b2.symm
      rw [← es] at b3
      rcases a3 with ⟨c1, c2, d, c3, c4, c5⟩ | ⟨c1, d, c3, c4, c5⟩ | ⟨c1, c2, c3⟩ | ⟨c1, c2, c3, c4, c5⟩
      · rcases b3 with ⟨d1, d2, d', d3, d4, d5⟩ | ⟨d1, _⟩ | ⟨d1, _⟩ | ⟨d1, _⟩
        · have := gr_ln_u c3 d3
          omega
        · omega
        · omega
        · omega
      · rcases b3 with ⟨d1, d2, _⟩ | ⟨d1, d', d3, d4, d5⟩ | ⟨d1, _⟩ | ⟨d1, d2, _⟩
        · omega
        · have := gr_ln_u c3 d3
          rw [← this] at d4 d5
          refine ⟨?_, es, by omega⟩
          rcases c5 with ⟨x1, x2, x3, x4⟩ | ⟨x1, x2⟩
          · rcases d5 with ⟨y1, y2, y3, y4⟩ | ⟨y1, y2⟩
            · omega
            · exact absurd ⟨x1, x2, x3⟩ y1
          · rcases d5 with ⟨y1, y2, y3, y4⟩ | ⟨y1, y2⟩
            · exact absurd ⟨y1, y2, y3⟩ x1
            · omega
        · omega
        · omega
      · rcases b3 with ⟨d1, d2, _⟩ | ⟨d1, _⟩ | ⟨d1, d2, d3⟩ | ⟨d1, d2, d3, _⟩
        · omega
        · omega
        · refine ⟨?_, es, by omega⟩
          rcases c3 with ⟨x1, x2⟩ | ⟨x1, x2⟩
          · rcases d3 with ⟨y1, y2⟩ | ⟨y1, y2⟩
            · omega
            · exact absurd x1 y1
          · rcases d3 with ⟨y1, y2⟩ | ⟨y1, y2⟩
            · exact absurd y1 x1
            · omega
        · omega
      · rcases b3 with ⟨d1, d2, _⟩ | ⟨d1, _⟩ | ⟨d1, _⟩ | ⟨d1, d2, d3, d4, d5⟩
        · omega
        · omega
        · omega
        · refine ⟨?_, es, by omega⟩
          rcases c5 with ⟨x1, x2⟩ | ⟨x1, x2⟩
          · rcases d5 with ⟨y1, y2⟩ | ⟨y1, y2⟩
            · omega
            · exact absurd x1 y1
          · rcases d5 with ⟨y1, y2⟩ | ⟨y1, y2⟩
            · exact absurd y1 x1
            · omega
def gr_tk (T : Int → Int) (c b pl kd si e : Int) : Prop := ∃ n, gr_ln (gr_in T c 32 32) b n ∧ pl = b + n ∧ gr_tok T c pl kd si e
theorem gr_tk_u {T : Int → Int} {c b pl kd si e pl2 kd2 si2 e2 : Int} (h : gr_tk T c b pl kd si e) (h2 : gr_tk T c b pl2 kd2 si2 e2) : pl = pl2 ∧ kd = kd2 ∧ si = si2 ∧ e = e2 := by
  obtain ⟨n, a1, a2, a3⟩ := h
  obtain ⟨n2, b1, b2, b3⟩ := h2
  have en := gr_ln_u a1 b1
  have ep : pl = pl2 := by omega
  rw [← ep] at b3
  exact ⟨ep, gr_tok_u a3 b3⟩
/-- a token lies within the signs, and takes some of them -/
theorem gr_tk_rng {T : Int → Int} {c b pl kd si e : Int} (b0 : 0 ≤ b) (bc : b ≤ c) (h : gr_tk T c b pl kd si e) : b ≤ pl ∧ pl ≤ c ∧ (kd = 1 ↔ pl = c) ∧ (kd ≠ 0 → e ≤ c) ∧ (kd ≠ 1 → pl < e) ∧ (0 ≤ kd ∧ kd ≤ 5) ∧ pl ≤ e ∧ (kd ≠ 1 → si = T pl) := by
  obtain ⟨n, ⟨n0, n1, n2⟩, hp, ht⟩ := h
  have pc : pl ≤ c := by
    by_cases q : n = 0
    · omega
    · have := n1 (n - 1) (by omega) (by omega)
      unfold gr_in at this
      omega
  rcases ht with ⟨a1, a2, a3, a4⟩ | ⟨a1, a2, a3⟩
  · omega
  · rcases a3 with ⟨c1, c2, d, c3, c4, c5⟩ | ⟨c1, d, c3, c4, c5⟩ | ⟨c1, c2, c3⟩ | ⟨c1, c2, c3, c4, c5⟩
    · have d0 := c3.1
      have dl : d = 0 ∨ pl + 1 + (d - 1) < c := by
        by_cases q : d = 0
        · exact Or.inl q
        · have := c3.2.1 (d - 1) (by omega) (by omega)
          unfold gr_in at this
          exact Or.inr this.2.1
      omega
    · have d0 := c3.1
      rcases c5 with ⟨x1, x2, x3, x4⟩ | ⟨x1, x2⟩
      · unfold gr_in at x3
        omega
      · omega
    · rcases c3 with ⟨x1, x2⟩ | ⟨x1, x2⟩
      · have := x1.2.2.2.2
        unfold gr_in at this
        omega
      · omega
    · omega
/-- the class's tape -/
def gr_ct (T : Int → Int) (c : Int) (m : gh_M) : Prop := m 3 1 = c ∧ 0 ≤ c ∧ c ≤ 240 ∧ (∀ k, 0 ≤ k → k < c → m 4 k = T k ∧ 32 ≤ T k ∧ T k ≤ 126)
theorem gr_ct_x {T : Int → Int} {c : Int} {m m2 : gh_M} (h1 : m2 3 1 = m 3 1) (h2 : m2 4 = m 4) (h : gr_ct T c m) : gr_ct T c m2 := by
  unfold gr_ct
  rw [h1, h2]
  exact h
theorem gr_signAt {T : Int → Int} {c : Int} {m : gh_M} (h : gr_ct T c m) (v : Int) : k_Tape_signAt v m ∧ (0 ≤ v → v < c → x_Tape_signAt v m = T v) ∧ (¬ (0 ≤ v ∧ v < c) → x_Tape_signAt v m = -1) := by
  obtain ⟨h1, h2, h3, h4⟩ := h
  unfold k_Tape_signAt x_Tape_signAt
  rw [h1]
  refine ⟨fun _ _ _ => by omega, fun a b => ?_, fun a => ?_⟩
  · rw [if_neg (by omega), if_pos b, if_pos (by omega)]
    exact (h4 v a b).1
  · by_cases q : v < 0
    · rw [if_pos q]
    · rw [if_neg q, if_neg (by omega)]
theorem gr_sa_in {T : Int → Int} {c : Int} {m : gh_M} (h : gr_ct T c m) {lo hi v : Int} (lo0 : 0 ≤ lo) : (lo ≤ x_Tape_signAt v m ∧ x_Tape_signAt v m ≤ hi) ↔ gr_in T c lo hi v := by
  obtain ⟨_, a, b⟩ := gr_signAt h v
  unfold gr_in
  by_cases q : 0 ≤ v ∧ v < c
  · rw [a q.1 q.2]
    exact ⟨fun y => ⟨q.1, q.2, y⟩, fun y => y.2.2⟩
  · rw [b q]
    exact ⟨fun y => by omega, fun y => absurd ⟨y.1, y.2.1⟩ q⟩
def gr_ck (kd si : Int) : Int := if kd = 0 then 5 else if kd = 1 then 4 else if kd = 5 then si else kd - 1
theorem gr_lookName {T : Int → Int} {c pl : Int} {m : gh_M} {Q : Int → gh_M → Prop} (h : gr_ct T c m) (pl0 : 0 ≤ pl) (plc : pl < c) (e3 : m 3 3 = pl) (e4 : m 3 4 = pl + 1) (H : ∀ m2 d, gr_ln (gr_in T c 48 57) (pl + 1) d → gx [3] m m2 → (∀ y, y ≠ 2 → y ≠ 4 → m2 3 y = m 3 y) → m2 3 4 = pl + 1 + d → m2 3 2 = (if d ≤ 2 then 1 else 5) → Q 0 m2) : w_Tape_lookAtName m Q := by
  have c240 := h.2.2.1
  refine ⟨fun m1 => ∃ d, 0 ≤ d ∧ pl + 1 + d ≤ c ∧ m1 3 4 = pl + 1 + d ∧ gx [3] m m1 ∧ (∀ y, y ≠ 4 → m1 3 y = m 3 y) ∧ ∀ x, 0 ≤ x → x < d → gr_in T c 48 57 (pl + 1 + x), fun m1 => (1000 - m1 3 4).toNat, ⟨0, Int.le_refl _, by omega, by omega, gx_rf, fun _ _ => rfl, fun x a b => by omega⟩, ?_⟩
  rintro m1 ⟨d, d0, d1, e1, hx, o, hd⟩
  have h1 : gr_ct T c m1 := gr_ct_x (o 1 (by decide)) (hx 4 (by decide)) h
  have sa := gr_sa_in h1 (lo := 48) (hi := 57) (v := pl + 1 + d) (by decide)
  unfold f_Tape_lookAtName_0
  rw [e1, h1.1]
  refine ⟨fun m2 => m2 = m1 ∧ ¬ gr_in T c 48 57 (pl + 1 + d), fun m2 ⟨j1, j2⟩ => ?_, fun _ => (gr_signAt h1 _).1, fun t => ⟨by omega, ⟨d + 1, by omega, by omega, by rw [gh_u_s]; omega, gx_u hx (by decide), fun y yn => by rw [gh_u_i yn]; exact o y yn, fun x x0 x1 => ?_⟩, by (try dsimp only); rw [gh_u_s]; omega⟩, fun t => ⟨rfl, fun y => t ⟨y.2.1, by have := sa.mpr y; omega⟩⟩⟩
  · rw [j1, e1, o 3 (by decide), e3]
    refine ⟨by omega, H _ d ⟨d0, hd, j2⟩ (gx_u hx (by decide)) (fun y a b => by rw [gh_u_i a]; exact o y b) (by rw [gh_u_i (by decide)]; exact e1) ?_⟩
    rw [gh_u_s]
    by_cases q : d ≤ 2
    · rw [if_pos q, if_pos (by omega)]
    · rw [if_neg q, if_neg (by omega)]
  · by_cases q : x = d
    · rw [q]
      exact sa.mp ⟨by omega, t.2.2⟩
    · exact hd x x0 (by omega)
theorem gr_lookQuote {T : Int → Int} {c pl : Int} {m : gh_M} {Q : Int → gh_M → Prop} (h : gr_ct T c m) (pl0 : 0 ≤ pl) (plc : pl < c) (e3 : m 3 3 = pl) (e4 : m 3 4 = pl + 1) (H : ∀ m2 d, gr_ln (gr_in T c 97 122) (pl + 1) d → gx [3] m m2 → (∀ y, y ≠ 2 → y ≠ 4 → m2 3 y = m 3 y) → m2 3 4 = pl + d + 2 → ((1 ≤ d ∧ d ≤ 3 ∧ gr_in T c 39 39 (pl + 1 + d) ∧ m2 3 2 = 2) ∨ (¬ (1 ≤ d ∧ d ≤ 3 ∧ gr_in T c 39 39 (pl + 1 + d)) ∧ m2 3 2 = 5)) → Q 0 m2) : w_Tape_lookAtQuote m Q := by
  have c240 := h.2.2.1
  refine ⟨fun m1 => ∃ d, 0 ≤ d ∧ pl + 1 + d ≤ c ∧ m1 3 4 = pl + 1 + d ∧ gx [3] m m1 ∧ (∀ y, y ≠ 4 → m1 3 y = m 3 y) ∧ ∀ x, 0 ≤ x → x < d → gr_in T c 97 122 (pl + 1 + x), fun m1 => (1000 - m1 3 4).toNat, ⟨0, Int.le_refl _, by omega, by omega, gx_rf, fun _ _ => rfl, fun x a b => by omega⟩, ?_⟩
  rintro m1 ⟨d, d0, d1, e1, hx, o, hd⟩
  have h1 : gr_ct T c m1 := gr_ct_x (o 1 (by decide)) (hx 4 (by decide)) h
  have sa := gr_sa_in h1 (lo := 97) (hi := 122) (v := pl + 1 + d) (by decide)
  have sq := gr_sa_in h1 (lo := 39) (hi := 39) (v := pl + 1 + d) (by decide)
  unfold f_Tape_lookAtQuote_0
  rw [e1, h1.1]
  refine ⟨fun m2 => m2 = m1 ∧ ¬ gr_in T c 97 122 (pl + 1 + d), fun m2 ⟨j1, j2⟩ => ?_, fun _ => (gr_signAt h1 _).1, fun t => ⟨by omega, ⟨d + 1, by omega, by omega, by rw [gh_u_s]; omega, gx_u hx (by decide), fun y yn => by rw [gh_u_i yn]; exact o y yn, fun x x0 x1 => ?_⟩, by (try dsimp only); rw [gh_u_s]; omega⟩, fun t => ⟨rfl, fun y => t ⟨y.2.1, by have := sa.mpr y; omega⟩⟩⟩
  · rw [j1, e1, o 3 (by decide), e3]
    refine ⟨by omega, by omega, ?_⟩
    intro v1 hv1
    have ed : v1 = d := by omega
    rw [ed]
    refine ⟨(gr_signAt h1 _).1, by omega, H _ d ⟨d0, hd, j2⟩ (gx_u (gx_u hx (by decide)) (by decide)) (fun y a b => by rw [gh_u_i b, gh_u_i a]; exact o y b) (by rw [gh_u_s]; omega) ?_⟩
    rw [gh_u_i (by decide), gh_u_s]
    by_cases q : 1 ≤ d ∧ d ≤ 3 ∧ gr_in T c 39 39 (pl + 1 + d)
    · refine Or.inl ⟨q.1, q.2.1, q.2.2, ?_⟩
      have := sq.mpr q.2.2
      rw [if_pos (by omega), if_neg (by omega), if_pos q.2.1]
    · refine Or.inr ⟨q, ?_⟩
      by_cases w : x_Tape_signAt (pl + 1 + d) m1 = 39
      · have := sq.mp ⟨by omega, by omega⟩
        rw [if_pos w]
        by_cases w1 : d < 1
        · rw [if_pos w1]
        · rw [if_neg w1, if_neg (fun z => q ⟨by omega, z, this⟩)]
      · rw [if_neg w]
  · by_cases q : x = d
    · rw [q]
      exact sa.mp ⟨by omega, t.2.2⟩
    · exact hd x x0 (by omega)
theorem gr_advance {T : Int → Int} {c b : Int} {m : gh_M} {Q : Int → gh_M → Prop} (h : gr_ct T c m) (b0 : 0 ≤ b) (bc : b ≤ c) (hb : m 3 4 = b) (H : ∀ m2 pl kd si e, gr_tk T c b pl kd si e → gx [3] m m2 → (∀ y, y ≠ 2 → y ≠ 3 → y ≠ 4 → m2 3 y = m 3 y) → m2 3 3 = pl → m2 3 4 = e → m2 3 2 = gr_ck kd si → Q 0 m2) : w_Tape_advance m Q := by
  have c240 := h.2.2.1
  unfold w_Tape_advance
  rw [hb]
  refine ⟨fun m1 => ∃ n, 0 ≤ n ∧ b + n ≤ c ∧ m1 3 3 = b + n ∧ gx [3] m m1 ∧ (∀ y, y ≠ 3 → m1 3 y = m 3 y) ∧ ∀ x, 0 ≤ x → x < n → gr_in T c 32 32 (b + x), fun m1 => (1000 - m1 3 3).toNat, ⟨0, Int.le_refl _, by omega, by rw [gh_u_s]; omega, gx_one _ _ _ _, fun y yn => gh_u_i yn, fun x a b => by omega⟩, ?_⟩
  rintro m1 ⟨n, n0, n1, e1, hx, o, hn⟩
  have h1 : gr_ct T c m1 := gr_ct_x (o 1 (by decide)) (hx 4 (by decide)) h
  have sa := gr_sa_in h1 (lo := 32) (hi := 32) (v := b + n) (by decide)
  unfold f_Tape_advance_8
  rw [e1, h1.1]
  refine ⟨fun m2 => m2 = m1 ∧ ¬ gr_in T c 32 32 (b + n), fun m2 ⟨j1, j2⟩ => ?_, fun _ => (gr_signAt h1 _).1, fun t => ⟨by omega, ⟨n + 1, by omega, by omega, by rw [gh_u_s]; omega, gx_u hx (by decide), fun y yn => by rw [gh_u_i yn]; exact o y yn, fun x x0 x1 => ?_⟩, by (try dsimp only); rw [gh_u_s]; omega⟩, fun t => ⟨rfl, fun y => t ⟨y.2.1, by have := sa.mpr y; omega⟩⟩⟩
  rotate_left
  · by_cases q : x = n
    · rw [q]
      exact sa.mp ⟨by omega, by omega⟩
    · exact hn x x0 (by omega)
  rw [j1, e1]
  have ln : gr_ln (gr_in T c 32 32) b n := ⟨n0, hn, j2⟩
  obtain ⟨ks, s1, s2⟩ := gr_signAt h1 (b + n)
  refine ⟨ks, ?_⟩
  intro v1 hv1
  have x2 : gx [3] m1 (gh_u m1 3 4 (b + n + 1)) := gx_one _ _ _ _
  have h2 : gr_ct T c (gh_u m1 3 4 (b + n + 1)) := gr_ct_x (gh_u_i (by decide)) (x2 4 (by decide)) h1
  have e2 : gh_u m1 3 4 (b + n + 1) 3 3 = b + n := by
    rw [gh_u_i (by decide)]
    exact e1
  have o2 : ∀ y, y ≠ 3 → y ≠ 4 → gh_u m1 3 4 (b + n + 1) 3 y = m 3 y := fun y a b => by
    rw [gh_u_i b]
    exact o y a
  refine ⟨by omega, fun z => ?_, fun z => ?_⟩
  · -- the end
    have pc : c ≤ b + n := by
      by_cases q : b + n < c
      · have := s1 (by omega) q
        have := (h.2.2.2 (b + n) (by omega) q).2
        omega
      · omega
    refine H _ (b + n) 1 0 (b + n) ⟨n, ln, rfl, Or.inl ⟨pc, rfl, rfl, rfl⟩⟩ (gx_u (gx_u (gx_u hx (by decide)) (by decide)) (by decide)) (fun y a b c => by rw [gh_u_i c, gh_u_i a, gh_u_i c]; exact o y b) (by rw [gh_u_i (by decide), gh_u_i (by decide), gh_u_i (by decide)]; exact e1) (gh_u_s _ _ _ _) ?_
    rw [gh_u_i (by decide), gh_u_s]
    rfl
  · have pc : b + n < c := by
      by_cases q : b + n < c
      · exact q
      · exact absurd (hv1.trans (s2 (by omega))) z
    have ev : v1 = T (b + n) := hv1.trans (s1 (by omega) pc)
    have tr := (h.2.2.2 (b + n) (by omega) pc).2
    refine ⟨¬ (65 ≤ v1 ∧ v1 ≤ 90), fun nn => ⟨fun q => ?_, fun q => ⟨fun q2 => ?_, fun q2 => ?_⟩⟩, fun q => ?_, fun q y => q ⟨by omega, y.2⟩⟩
    · refine gr_lookQuote h2 (by omega) pc e2 (gh_u_s _ _ _ _) (fun m3 d ld x3 o3 e4 r => H m3 (b + n) (if m3 3 2 = 2 then 3 else 0) (T (b + n)) (b + n + d + 2) ⟨n, ln, rfl, Or.inr ⟨pc, rfl, Or.inr (Or.inl ⟨by omega, d, ld, rfl, ?_⟩)⟩⟩ (gx_t hx (gx_t x2 x3)) (fun y a b c => by rw [o3 y a c]; exact o2 y b c) (by rw [o3 3 (by decide) (by decide)]; exact e2) e4 ?_)
      · rcases r with ⟨r1, r2, r3, r4⟩ | ⟨r1, r2⟩
        · exact Or.inl ⟨r1, r2, r3, if_pos r4⟩
        · exact Or.inr ⟨r1, if_neg (by omega)⟩
      · rcases r with ⟨r1, r2, r3, r4⟩ | ⟨r1, r2⟩
        · rw [if_pos r4, r4]
          rfl
        · rw [if_neg (by omega), r2]
          rfl
    · -- a class
      unfold w_Tape_lookAtClass
      rw [e2]
      have a1 := gr_sa_in h2 (lo := 97) (hi := 122) (v := b + n + 1) (by decide)
      have a2 := gr_sa_in h2 (lo := 45) (hi := 45) (v := b + n + 2) (by decide)
      have a3 := gr_sa_in h2 (lo := 97) (hi := 122) (v := b + n + 3) (by decide)
      have a4 := gr_sa_in h2 (lo := 93) (hi := 93) (v := b + n + 4) (by decide)
      have b1 := gr_signAt h2 (b + n + 1)
      have b3 := gr_signAt h2 (b + n + 3)
      refine ⟨by omega, b1.1, ?_⟩
      intro w1 hw1
      refine ⟨by omega, b3.1, ?_⟩
      intro w2 hw2
      refine ⟨fun _ => ⟨by omega, (gr_signAt h2 _).1, fun _ _ _ => ⟨by omega, (gr_signAt h2 _).1⟩⟩, ?_⟩
      intro w3 hw3
      have key : (((¬ (w1 < 97) ∧ (w1 ≤ 122))) ∧ (((x_Tape_signAt (b + n + 2) (gh_u m1 3 4 (b + n + 1))) = 45) ∧ (((¬ (w2 < 97) ∧ (w2 ≤ 122))) ∧ ((w1 ≤ w2) ∧ ((x_Tape_signAt (b + n + 4) (gh_u m1 3 4 (b + n + 1))) = 93))))) ↔ gr_cls T c (b + n) := by
        unfold gr_cls
        rw [← a1, ← a2, ← a3, ← a4, ← hw1, ← hw2]
        constructor
        · rintro ⟨y1, y2, y3, y4, y5⟩
          have i1 := a1.mp ⟨by omega, by omega⟩
          have i3 := a3.mp ⟨by omega, by omega⟩
          have t1 := b1.2.1 i1.1 i1.2.1
          have t3 := b3.2.1 i3.1 i3.2.1
          exact ⟨⟨by omega, y1.2⟩, ⟨by omega, by omega⟩, ⟨by omega, y3.2⟩, by omega, by omega, by omega⟩
        · rintro ⟨y1, y2, y3, y4, y5⟩
          have i1 := a1.mp ⟨by omega, by omega⟩
          have i3 := a3.mp ⟨by omega, by omega⟩
          have t1 := b1.2.1 i1.1 i1.2.1
          have t3 := b3.2.1 i3.1 i3.2.1
          exact ⟨⟨by omega, y1.2⟩, by omega, ⟨by omega, y3.2⟩, by omega, by omega⟩
      refine ⟨by omega, ?_⟩
      by_cases g : gr_cls T c (b + n)
      · rw [if_pos (key.mpr g)] at hw3
        rw [hw3, if_neg (by decide)]
        exact H _ (b + n) 4 (T (b + n)) (b + n + 5) ⟨n, ln, rfl, Or.inr ⟨pc, rfl, Or.inr (Or.inr (Or.inl ⟨by omega, rfl, Or.inl ⟨g, rfl⟩⟩))⟩⟩ (gx_u (gx_u (gx_t hx x2) (by decide)) (by decide)) (fun y a b c => by rw [gh_u_i c, gh_u_i a]; exact o2 y b c) (by rw [gh_u_i (by decide), gh_u_i (by decide)]; exact e2) (gh_u_s _ _ _ _) (by rw [gh_u_i (by decide), gh_u_s]; rfl)
      · rw [if_neg (fun y => g (key.mp y))] at hw3
        rw [hw3, if_pos rfl]
        exact H _ (b + n) 0 (T (b + n)) (b + n + 5) ⟨n, ln, rfl, Or.inr ⟨pc, rfl, Or.inr (Or.inr (Or.inl ⟨by omega, rfl, Or.inr ⟨g, rfl⟩⟩))⟩⟩ (gx_u (gx_u (gx_t hx x2) (by decide)) (by decide)) (fun y a b c => by rw [gh_u_i c, gh_u_i a]; exact o2 y b c) (by rw [gh_u_i (by decide), gh_u_i (by decide)]; exact e2) (gh_u_s _ _ _ _) (by rw [gh_u_i (by decide), gh_u_s]; rfl)
    · have nn' : ¬ (65 ≤ T (b + n) ∧ T (b + n) ≤ 90) := by
        rw [← ev]
        exact nn
      by_cases g : gr_mark (T (b + n))
      · refine H _ (b + n) 5 (T (b + n)) (b + n + 1) ⟨n, ln, rfl, Or.inr ⟨pc, rfl, Or.inr (Or.inr (Or.inr ⟨nn', by omega, by omega, rfl, Or.inl ⟨g, rfl⟩⟩))⟩⟩ (gx_u (gx_t hx x2) (by decide)) (fun y a b c => by rw [gh_u_i a]; exact o2 y b c) (by rw [gh_u_i (by decide)]; exact e2) (by rw [gh_u_i (by decide), gh_u_s]) ?_
        rw [gh_u_s, ev]
        exact if_pos g
      · refine H _ (b + n) 0 (T (b + n)) (b + n + 1) ⟨n, ln, rfl, Or.inr ⟨pc, rfl, Or.inr (Or.inr (Or.inr ⟨nn', by omega, by omega, rfl, Or.inr ⟨g, rfl⟩⟩))⟩⟩ (gx_u (gx_t hx x2) (by decide)) (fun y a b c => by rw [gh_u_i a]; exact o2 y b c) (by rw [gh_u_i (by decide)]; exact e2) (by rw [gh_u_i (by decide), gh_u_s]) ?_
        rw [gh_u_s, ev]
        exact if_neg g
    · refine gr_lookName h2 (by omega) pc e2 (gh_u_s _ _ _ _) (fun m3 d ld x3 o3 e4 r => H m3 (b + n) (if d ≤ 2 then 2 else 0) (T (b + n)) (b + n + 1 + d) ⟨n, ln, rfl, Or.inr ⟨pc, rfl, Or.inl ⟨by omega, by omega, d, ld, rfl, ?_⟩⟩⟩ (gx_t hx (gx_t x2 x3)) (fun y a b c => by rw [o3 y a c]; exact o2 y b c) (by rw [o3 3 (by decide) (by decide)]; exact e2) e4 ?_)
      · by_cases g : d ≤ 2
        · exact Or.inl ⟨g, if_pos g⟩
        · exact Or.inr ⟨by omega, if_neg g⟩
      · rw [r]
        by_cases g : d ≤ 2
        · rw [if_pos g, if_pos g]
          rfl
        · rw [if_neg g, if_neg g]
          rfl

