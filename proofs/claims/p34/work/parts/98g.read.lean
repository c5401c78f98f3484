/-! READING, the class's: a fault's kind and place; the grammar that is read -/
theorem gj_row_1 {T : Int → Int} {S : go_S} {b : Int} {ps : List Int} {a : Int} {k2 : go_K} {pl kd si e : Int} : ∀ R, R = go_row T S b ps a k2 pl kd si e → 0 ≤ R.1 ∧ R.1 ≤ 5 := by
  intro R hR
  unfold go_row at hR
  repeat' split at hR
  all_goals
    rw [hR]
    refine ⟨?_, ?_⟩
    all_goals
      (try dsimp only)
      decide
theorem gj_pr {n : Int} {S : go_S} (h : 0 ≤ n ∧ n ≤ 5) : 0 ≤ (n, S).1 ∧ (n, S).1 ≤ 5 := h
theorem gj_act_1 {T : Int → Int} {c pl kd si e : Int} {S : go_S} (hs : S.1.1 = 0 ∨ S.1.1 = 1 ∨ S.2.2 ≠ []) : 0 ≤ (go_act T c S pl kd si e).1 ∧ (go_act T c S pl kd si e).1 ≤ 5 := by
  unfold go_act
  by_cases k0 : kd = 0
  · rw [if_pos k0]
    exact gj_pr (by decide)
  rw [if_neg k0]
  by_cases s0 : S.1.1 = 0
  · rw [if_pos s0]
    by_cases k2 : kd = 2
    · rw [if_pos k2]
      by_cases hs : gr_has T c S.1.2.1 S.2.1.1 pl
      · rw [if_pos hs]
        exact gj_pr (by decide)
      rw [if_neg hs]
      by_cases n8 : S.1.2.1 + S.1.2.2.1 = 8
      · rw [if_pos n8]
        exact gj_pr (by decide)
      rw [if_neg n8]
      exact gj_pr (by decide)
    · rw [if_neg k2]
      exact gj_pr (by decide)
  rw [if_neg s0]
  by_cases s1 : S.1.1 = 1
  · rw [if_pos s1]
    by_cases c5 : kd = 5 ∧ si = 58
    · rw [if_pos c5]
      exact gj_pr (by decide)
    · rw [if_neg c5]
      exact gj_pr (by decide)
  rw [if_neg s1]
  have hne := (hs.resolve_left s0).resolve_left s1
  obtain ⟨s1, s3, sk⟩ := S
  cases sk with
  | nil => exact absurd rfl hne
  | cons x k2 =>
    obtain ⟨b, ps, a⟩ := x
    exact gj_row_1 _ rfl
theorem gj_out {T : Int → Int} {c f pl : Int} {S2 : go_S} : ∀ (n : Nat) (b : Int) (S : go_S), go_iv T c b S → 0 ≤ b → b ≤ c → go_out T c n b S f pl S2 → 0 ≤ f ∧ f ≤ 5 ∧ 0 ≤ pl ∧ ∃ pos, go_iv T c pos S2
  | 0, _, _, _, _, _, h => False.elim h
  | n + 1, b, S, iv, b0, bc, ⟨p, kd, si, e, h1, h2⟩ => by
    have rg := gr_tk_rng b0 bc h1
    rcases h2 with ⟨x1, x2, x3, x4⟩ | ⟨x1, x2, x3, x4, x5⟩ | ⟨x1, x2, x3⟩
    · rw [x2, x3, x4]
      exact ⟨Int.le_refl _, by decide, by omega, b, iv⟩
    · rw [x3, x4, x5]
      have hs : S.1.1 = 0 ∨ S.1.1 = 1 ∨ S.2.2 ≠ [] := by
        rcases iv.1 with y | y | y
        · exact Or.inl y
        · exact Or.inr (Or.inl y)
        · exact Or.inr (Or.inr (iv.2.2.2.2.2.2.2.1.2.2.2.1 y))
      have a := gj_act_1 (T := T) (c := c) (pl := p) (kd := kd) (si := si) (e := e) hs
      exact ⟨a.1, a.2, by omega, b, iv⟩
    · obtain ⟨s1, s2, s3⟩ := go_step iv b0 bc h1 x2
      exact gj_out n e _ s1 (by omega) s3 x3
theorem gj_res {T : Int → Int} {c f pl : Int} {S : go_S} (c0 : 0 ≤ c) (h : go_res T c f pl S) : 0 ≤ f ∧ f ≤ 5 ∧ (f ≠ 0 → 0 ≤ pl) ∧ (f = 0 → pl = -1) := by
  obtain ⟨N, f1, p1, o, h⟩ := h
  obtain ⟨a1, a2, a3, pos, iv⟩ := gj_out N 0 go_S0 go_iv_0 (Int.le_refl _) c0 o
  rcases h with ⟨b1, b2, b3⟩ | ⟨b1, b2, x, b3, b4⟩ | ⟨b1, b2, b3, b4⟩
  · rw [b2, b3]
    exact ⟨a1, a2, fun _ => a3, fun z => absurd z b1⟩
  · rw [b2]
    obtain ⟨x0, x1, _, _⟩ := b3
    obtain ⟨d, hd⟩ := iv.2.2.2.2.2.2.2.2.2.1 x x0 x1
    refine ⟨by decide, by decide, fun _ => ?_, fun z => absurd z (by decide)⟩
    rw [b4]
    exact hd.1
  · rw [b2, b3]
    exact ⟨by decide, by decide, fun z => absurd rfl z, fun _ => rfl⟩
