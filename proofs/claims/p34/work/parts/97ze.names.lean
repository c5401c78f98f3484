/-- a name stands at q, with d figures -/
def gr_nm (T : Int → Int) (c q d : Int) : Prop := 0 ≤ q ∧ q < c ∧ 65 ≤ T q ∧ T q ≤ 90 ∧ d ≤ 2 ∧ gr_ln (gr_in T c 48 57) (q + 1) d
def gr_kf (T : Int → Int) (d q : Int) : Int := T q + (if 1 ≤ d then 128 * T (q + 1) else 0) + (if 2 ≤ d then 16384 * T (q + 2) else 0)
def gr_kof (T : Int → Int) (c q k : Int) : Prop := ∃ d, gr_nm T c q d ∧ k = gr_kf T d q
def gr_sn (T : Int → Int) (c q q2 : Int) : Prop := ∃ k, gr_kof T c q k ∧ gr_kof T c q2 k
theorem gr_kof_u {T : Int → Int} {c q k k2 : Int} (h : gr_kof T c q k) (h2 : gr_kof T c q k2) : k = k2 := by
  obtain ⟨d, a1, a2⟩ := h
  obtain ⟨d2, b1, b2⟩ := h2
  have e := gr_ln_u a1.2.2.2.2.2 b1.2.2.2.2.2
  rw [← e] at b2
  exact a2.trans b2.symm
theorem gr_nm_b {T : Int → Int} {c q d : Int} (h : gr_nm T c q d) : 0 ≤ d ∧ q + d < c ∧ (1 ≤ d → 48 ≤ T (q + 1) ∧ T (q + 1) ≤ 57) ∧ (2 ≤ d → 48 ≤ T (q + 2) ∧ T (q + 2) ≤ 57) := by
  obtain ⟨h1, h2, h3, h4, h5, h6, h7, h8⟩ := h
  have g : ∀ x, 0 ≤ x → x < d → q + 1 + x < c ∧ 48 ≤ T (q + 1 + x) ∧ T (q + 1 + x) ≤ 57 := fun x a b => (h7 x a b).2
  refine ⟨h6, ?_, fun y => ?_, fun y => ?_⟩
  · by_cases u : d = 0
    · omega
    · have := g (d - 1) (by omega) (by omega)
      omega
  · have := g 0 (by omega) (by omega)
    rw [Int.add_zero] at this
    exact this.2
  · have := g 1 (by omega) (by omega)
    have e : q + 1 + 1 = q + 2 := by omega
    rw [e] at this
    exact this.2
theorem gr_kof_b {T : Int → Int} {c q k : Int} (h : gr_kof T c q k) : 65 ≤ k ∧ k < 2097152 := by
  obtain ⟨d, a1, a2⟩ := h
  have b := gr_nm_b a1
  obtain ⟨h1, h2, h3, h4, h5, _⟩ := a1
  unfold gr_kf at a2
  by_cases u : 1 ≤ d
  · rw [if_pos u] at a2
    have := b.2.2.1 u
    by_cases w : 2 ≤ d
    · rw [if_pos w] at a2
      have := b.2.2.2 w
      omega
    · rw [if_neg w] at a2
      omega
  · rw [if_neg u, if_neg (by omega)] at a2
    omega
theorem gr_tok_nm {T : Int → Int} {c pl si e : Int} (pl0 : 0 ≤ pl) (h : gr_tok T c pl 2 si e) : ∃ d, gr_nm T c pl d ∧ e = pl + 1 + d := by
  rcases h with ⟨a1, a2, a3, a4⟩ | ⟨a1, a2, a3⟩
  · omega
  · rcases a3 with ⟨c1, c2, d, c3, c4, c5⟩ | ⟨c1, d, c3, c4, c5⟩ | ⟨c1, c2, c3⟩ | ⟨c1, c2, c3, c4, c5⟩
    · exact ⟨d, ⟨pl0, a1, by omega, by omega, by omega, c3⟩, c4⟩
    · omega
    · omega
    · omega
/-- the class's number of a name -/
theorem gr_key {T : Int → Int} {c pl d : Int} {m : gh_M} {Q : Int → Prop} (h : gr_ct T c m) (hn : gr_nm T c pl d) (e3 : m 3 3 = pl) (e4 : m 3 4 = pl + 1 + d) (H : Q (gr_kf T d pl)) : w_Tape_key m Q := by
  have b := gr_nm_b hn
  have c240 := h.2.2.1
  obtain ⟨h1, h2, h3, h4, h5, _⟩ := hn
  unfold w_Tape_key
  rw [e4]
  refine ⟨by omega, ?_⟩
  intro v2 hv2
  have kf : gr_kf T d pl = if d = 0 then T pl else if d = 1 then T (pl + 1) * 128 + T pl else (T (pl + 2) * 128 + T (pl + 1)) * 128 + T pl := by
    unfold gr_kf
    have c0 : d = 0 ∨ d = 1 ∨ d = 2 := by omega
    rcases c0 with e | e | e <;> rw [e]
    · rw [if_neg (by decide), if_neg (by decide), if_pos rfl]
      omega
    · rw [if_pos (by decide), if_neg (by decide), if_neg (by decide), if_pos rfl]
      omega
    · rw [if_pos (by decide), if_pos (by decide), if_neg (by decide), if_neg (by decide)]
      omega
  refine ⟨fun v k => (k = pl + d ∧ v = 0) ∨ (k = pl + d - 1 ∧ v = T (pl + d)) ∨ (k = pl + d - 2 ∧ 1 ≤ d ∧ v = T (pl + d) * 128 + T (pl + d - 1)) ∨ (k = pl + d - 3 ∧ 2 ≤ d ∧ v = (T (pl + d) * 128 + T (pl + d - 1)) * 128 + T (pl + d - 2)), fun v k => (k + 1).toNat, Or.inl ⟨by omega, rfl⟩, ?_⟩
  rintro v k hk
  unfold f_Tape_key_9
  rw [e3]
  have lt : ∀ x, 0 ≤ x → x ≤ d → 0 ≤ T (pl + x) ∧ T (pl + x) ≤ 126 := fun x x0 x1 => by
    have := h.2.2.2 (pl + x) (by omega) (by omega)
    omega
  refine ⟨fun lo => ?_, fun hi => ?_⟩
  · have e : v = gr_kf T d pl := by
      rw [kf]
      have c0 : d = 0 ∨ d = 1 ∨ d = 2 := by omega
      rcases c0 with e | e | e <;> rw [e] at hk ⊢
      · rw [if_pos rfl]
        rw [Int.add_zero] at hk
        omega
      · rw [if_neg (by decide), if_pos rfl]
        have e1 : pl + 1 - 1 = pl := by omega
        rw [e1] at hk
        omega
      · rw [if_neg (by decide), if_neg (by decide)]
        have e1 : pl + 2 - 1 = pl + 1 := by omega
        have e2 : pl + 2 - 2 = pl := by omega
        rw [e1, e2] at hk
        omega
    rw [e]
    exact H
  · have sa := gr_signAt h k
    have kr : pl ≤ k ∧ k ≤ pl + d := by omega
    rw [sa.2.1 (by omega) (by omega)]
    have t0 := lt (k - pl) (by omega) (by omega)
    have ek : pl + (k - pl) = k := by omega
    rw [ek] at t0
    have td := lt d b.1 (Int.le_refl _)
    have vb : 0 ≤ v ∧ v ≤ 20000 := by
      rcases hk with y | y | y | y
      · omega
      · omega
      · have := lt (d - 1) (by omega) (by omega)
        have e : pl + (d - 1) = pl + d - 1 := by omega
        rw [e] at this
        omega
      · omega
    refine ⟨by omega, sa.1, by omega, ?_⟩
    intro v' hv'
    refine ⟨by omega, ?_, by (try dsimp only); omega⟩
    rw [hv']
    rcases hk with y | y | y | y
    · refine Or.inr (Or.inl ⟨by omega, ?_⟩)
      rw [y.1, y.2]
      omega
    · refine Or.inr (Or.inr (Or.inl ⟨by omega, by omega, ?_⟩))
      rw [y.1, y.2]
    · refine Or.inr (Or.inr (Or.inr ⟨by omega, by omega, ?_⟩))
      rw [y.1, y.2.2]
    · omega
/-! TOLD NAMES -/
def gr_td (T : Int → Int) (c nt : Int) (ta : Int → Int) (q x : Int) : Prop := 0 ≤ x ∧ x < nt ∧ gr_sn T c (ta x) q
def gr_has (T : Int → Int) (c nt : Int) (ta : Int → Int) (q : Int) : Prop := ∃ x, gr_td T c nt ta q x
/-- told names are names, and all different -/
def gr_tv (T : Int → Int) (c nt : Int) (ta : Int → Int) : Prop := (0 ≤ nt ∧ nt ≤ 8) ∧ (∀ x, 0 ≤ x → x < nt → ∃ d, gr_nm T c (ta x) d) ∧ ∀ x y, 0 ≤ x → x < nt → 0 ≤ y → y < nt → gr_sn T c (ta x) (ta y) → x = y
theorem gr_find {T : Int → Int} {c nt q k : Int} {ta : Int → Int} {m : gh_M} {Q : Int → Prop} (tv : gr_tv T c nt ta) (e1 : m 6 1 = nt) (ks : ∀ x, 0 ≤ x → x < nt → gr_kof T c (ta x) (m 7 x)) (hq : gr_kof T c q k) (H1 : ∀ x, gr_td T c nt ta q x → Q x) (H0 : ¬ gr_has T c nt ta q → Q (-1)) : w_Draft_find k m Q := by
  refine ⟨fun v => 0 ≤ v ∧ v ≤ nt ∧ ∀ x, 0 ≤ x → x < v → ¬ gr_td T c nt ta q x, fun v => (20 - v).toNat, ⟨Int.le_refl _, tv.1.1, fun x a b => by omega⟩, ?_⟩
  rintro v ⟨v0, v1, hv⟩
  have t8 := tv.1.2
  unfold f_Draft_find_2
  rw [e1]
  refine ⟨fun c1 => ⟨v0, by omega, fun e => ?_, fun e => ⟨by omega, ⟨by omega, by omega, fun x a b => ?_⟩, by (try dsimp only); omega⟩⟩, fun c1 => H0 (fun ⟨x, y⟩ => hv x y.1 (by have := y.2.1; omega) y)⟩
  · refine H1 v ⟨v0, c1.1, k, ?_, hq⟩
    rw [← e]
    exact ks v v0 c1.1
  · by_cases u : x = v
    · rw [u]
      rintro ⟨_, _, k2, y1, y2⟩
      have e2 := gr_kof_u y2 hq
      have e3 := gr_kof_u y1 (ks v v0 c1.1)
      exact e (e3.symm.trans e2)
    · exact hv x a (by omega)
