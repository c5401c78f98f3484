/-! READING: a run, token by token -/
def go_stop (S : go_S) (kd : Int) : Prop := S.1.1 = 0 ∧ kd = 1 ∧ 0 < S.1.2.1
/-- the reading from b on, in this state, ends so: with a fault (or 0) at that token, in that state -/
def go_out (T : Int → Int) (c : Int) : Nat → Int → go_S → Int → Int → go_S → Prop
  | 0, _, _, _, _, _ => False
  | n + 1, b, S, f, pl, S2 => ∃ p kd si e, gr_tk T c b p kd si e ∧ ((go_stop S kd ∧ f = 0 ∧ pl = p ∧ S2 = S) ∨ (¬ go_stop S kd ∧ (go_act T c S p kd si e).1 ≠ 0 ∧ f = (go_act T c S p kd si e).1 ∧ pl = p ∧ S2 = S) ∨ (¬ go_stop S kd ∧ (go_act T c S p kd si e).1 = 0 ∧ go_out T c n e (go_act T c S p kd si e).2 f pl S2))
theorem go_out_u {T : Int → Int} {c f pl f' pl' : Int} {S2 S2' : go_S} : ∀ (n n' : Nat) (b : Int) (S : go_S), go_out T c n b S f pl S2 → go_out T c n' b S f' pl' S2' → f = f' ∧ pl = pl' ∧ S2 = S2'
  | 0, _, _, _, h, _ => False.elim h
  | _ + 1, 0, _, _, _, h => False.elim h
  | n + 1, n' + 1, b, S, ⟨p, kd, si, e, h1, h2⟩, ⟨p', kd', si', e', h1', h2'⟩ => by
    obtain ⟨a1, a2, a3, a4⟩ := gr_tk_u h1 h1'
    rw [← a1, ← a2, ← a3, ← a4] at h2'
    rcases h2 with ⟨x1, x2, x3, x4⟩ | ⟨x1, x2, x3, x4, x5⟩ | ⟨x1, x2, x3⟩
    · rcases h2' with ⟨y1, y2, y3, y4⟩ | ⟨y1, y2⟩ | ⟨y1, y2⟩
      · exact ⟨x2.trans y2.symm, x3.trans y3.symm, x4.trans y4.symm⟩
      · exact absurd x1 y1
      · exact absurd x1 y1
    · rcases h2' with ⟨y1, y2⟩ | ⟨y1, y2, y3, y4, y5⟩ | ⟨y1, y2, y3⟩
      · exact absurd y1 x1
      · exact ⟨x3.trans y3.symm, x4.trans y4.symm, x5.trans y5.symm⟩
      · exact absurd y2 x2
    · rcases h2' with ⟨y1, y2⟩ | ⟨y1, y2, y3, y4, y5⟩ | ⟨y1, y2, y3⟩
      · exact absurd y1 x1
      · exact absurd x2 y2
      · exact go_out_u n n' _ _ x3 y3
def go_S0 : go_S := ((0, 0, 0, 0, 0, 0), (fun _ => 0, fun _ => 0, fun _ => [], fun _ => 0, fun _ => 0), [])
theorem go_iv_0 {T : Int → Int} {c : Int} : go_iv T c 0 go_S0 := by
  unfold go_S0 go_iv
  (try dsimp only)
  refine ⟨Or.inl rfl, ⟨by omega, fun x _ _ => by omega, fun x y _ _ _ _ _ => by omega⟩, by omega, by omega, by omega, fun r _ _ => by omega, ?_, ⟨by decide, trivial, trivial, fun z => by omega, fun _ => by decide⟩, fun z => absurd rfl z, fun x _ _ => by omega, fun b _ _ _ => by omega⟩
  show (0 : Int) ≤ 0 ∧ (0 : Int) ≤ 0 + max 0 (0 - 1)
  omega
theorem go_rc_0 {T : Int → Int} {c : Int} {m : gh_M} (h4 : m 5 4 = 0) (h1 : m 6 1 = 0) (h2 : m 6 2 = 0) (h3 : m 6 3 = 0) : go_rc T c go_S0 m := by
  unfold go_S0 go_rc
  (try dsimp only)
  exact ⟨⟨h4, h1, h2, h3⟩, fun x _ _ => by omega, fun r _ _ => by omega, fun z => by omega⟩
theorem go_skc_x {T : Int → Int} {c : Int} {m m2 : gh_M} {S : go_S} (x : ∀ a, 5 ≤ a → a ≤ 12 → m2 a = m a) (h : go_rc T c S m) : go_rc T c S m2 := by
  obtain ⟨⟨r1, r2, r3, r4⟩, r5, r6, r7⟩ := h
  refine ⟨⟨by rw [x 5 (by decide) (by decide)]; exact r1, by rw [x 6 (by decide) (by decide)]; exact r2, by rw [x 6 (by decide) (by decide)]; exact r3, by rw [x 6 (by decide) (by decide)]; exact r4⟩, fun y y0 y1 => by rw [x 7 (by decide) (by decide)]; exact r5 y y0 y1, fun r r0 r1 => ?_, fun z => ?_⟩
  · rw [x 8 (by decide) (by decide), x 9 (by decide) (by decide), x 10 (by decide) (by decide)]
    exact r6 r r0 r1
  · obtain ⟨w1, w2, w3⟩ := r7 z
    refine ⟨by rw [x 5 (by decide) (by decide)]; exact w1, go_skc_eq (x 11 (by decide) (by decide)) (x 12 (by decide) (by decide)) _ w2, ?_⟩
    unfold go_at at w3 ⊢
    rw [x 5 (by decide) (by decide)]
    exact w3
/-- what a token that is taken changes -/
theorem go_act_f {T : Int → Int} {c pos pl kd si e : Int} {S : go_S} (iv : go_iv T c pos S) (f : (go_act T c S pl kd si e).1 = 0) : (kd ≠ 0 ∧ kd ≠ 1) ∧ ((go_act T c S pl kd si e).2.1.1 = 0 ↔ kd = 5 ∧ si = 59) ∧ ((S.1.1 = 2 ∧ kd = 2 ∧ (go_act T c S pl kd si e).2.1.2.2.2.2.2 = S.1.2.2.2.2.2 + 1 ∧ (go_act T c S pl kd si e).2.2.1.2.2.2.2 = gm_upd S.2.1.2.2.2.2 S.1.2.2.2.2.2 pl) ∨ (¬ (S.1.1 = 2 ∧ kd = 2) ∧ (go_act T c S pl kd si e).2.1.2.2.2.2.2 = S.1.2.2.2.2.2 ∧ (go_act T c S pl kd si e).2.2.1.2.2.2.2 = S.2.1.2.2.2.2)) := by
  obtain ⟨⟨st, nt, md, nr, br, ns⟩, ⟨ta, ow, rl, mb, sa⟩, sk⟩ := S
  obtain ⟨i1, i2, i3, i4, i5, i6, i7, ⟨i8, i9, i10, i11, i12⟩, i13, i14, i15⟩ := iv
  unfold go_act at f ⊢
  (try dsimp only at i1 i11 f ⊢)
  by_cases k0 : kd = 0
  · rw [if_pos k0] at f
    exact (go_no f (by decide)).elim
  rw [if_neg k0] at f ⊢
  by_cases s0 : st = 0
  · rw [if_pos s0] at f ⊢
    by_cases k2 : kd = 2
    · rw [if_pos k2] at f ⊢
      by_cases hs : gr_has T c nt ta pl
      · rw [if_pos hs] at f
        exact (go_no f (by decide)).elim
      rw [if_neg hs] at f ⊢
      by_cases n8 : nt + md = 8
      · rw [if_pos n8] at f
        exact (go_no f (by decide)).elim
      rw [if_neg n8] at f ⊢
      exact ⟨⟨k0, by omega⟩, ⟨fun z => absurd (show (1 : Int) = 0 from z) (by decide), fun z => by omega⟩, Or.inr ⟨fun z => by omega, rfl, rfl⟩⟩
    · rw [if_neg k2] at f
      exact (go_no f (by decide)).elim
  rw [if_neg s0] at f ⊢
  by_cases s1 : st = 1
  · rw [if_pos s1] at f ⊢
    by_cases c5 : kd = 5 ∧ si = 58
    · rw [if_pos c5] at f ⊢
      exact ⟨⟨k0, by omega⟩, ⟨fun z => absurd (show (2 : Int) = 0 from z) (by decide), fun z => by omega⟩, Or.inr ⟨fun z => by omega, rfl, rfl⟩⟩
    · rw [if_neg c5] at f
      exact (go_no f (by decide)).elim
  rw [if_neg s1] at f ⊢
  have s2 : st = 2 := by omega
  cases sk with
  | nil => exact absurd rfl (i11 s2)
  | cons x k2 =>
    obtain ⟨b, ps, a⟩ := x
    unfold go_row at f ⊢
    (try dsimp only at f ⊢)
    by_cases w : kd = 2 ∨ kd = 3 ∨ kd = 4
    · rw [if_pos w] at f ⊢
      by_cases w4 : 4 < (ps.length : Int) + go_w kd pl e
      · rw [if_pos w4] at f
        exact (go_no f (by decide)).elim
      rw [if_neg w4] at f ⊢
      refine ⟨⟨k0, by omega⟩, ⟨fun z => absurd (show (2 : Int) = 0 from z) (by decide), fun z => by omega⟩, ?_⟩
      by_cases q : kd = 2
      · refine Or.inl ⟨s2, q, ?_, ?_⟩
        · show (if kd = 2 then ns + 1 else ns) = ns + 1
          rw [if_pos q]
        · show (if kd = 2 then gm_upd sa ns pl else sa) = gm_upd sa ns pl
          rw [if_pos q]
      · refine Or.inr ⟨fun z => q z.2, ?_, ?_⟩
        · show (if kd = 2 then ns + 1 else ns) = ns
          rw [if_neg q]
        · show (if kd = 2 then gm_upd sa ns pl else sa) = sa
          rw [if_neg q]
    rw [if_neg w] at f ⊢
    by_cases w5 : kd ≠ 5 ∨ si = 58
    · rw [if_pos w5] at f
      exact (go_no f (by decide)).elim
    rw [if_neg w5] at f ⊢
    have k5 : kd = 5 := by omega
    have n01 : kd ≠ 0 ∧ kd ≠ 1 := by omega
    have n22 : ¬ (st = 2 ∧ kd = 2) := by omega
    by_cases q40 : si = 40
    · rw [if_pos q40] at f ⊢
      by_cases l3 : k2.length = 3
      · rw [if_pos l3] at f
        exact (go_no f (by decide)).elim
      rw [if_neg l3] at f ⊢
      exact ⟨n01, ⟨fun z => absurd (show (2 : Int) = 0 from z) (by decide), fun z => by omega⟩, Or.inr ⟨n22, rfl, rfl⟩⟩
    rw [if_neg q40] at f ⊢
    by_cases q41 : si = 41
    · rw [if_pos q41] at f ⊢
      cases k2 with
      | nil => exact (go_no f (by decide)).elim
      | cons x2 k3 =>
        obtain ⟨b2, ps2, a2⟩ := x2
        (try dsimp only at f ⊢)
        by_cases r3 : nr = 20 ∨ nt + md = 8 ∨ ps2.length = 4
        · rw [if_pos r3] at f
          exact (go_no f (by decide)).elim
        rw [if_neg r3] at f ⊢
        exact ⟨n01, ⟨fun z => absurd (show (2 : Int) = 0 from z) (by decide), fun z => by omega⟩, Or.inr ⟨n22, rfl, rfl⟩⟩
    rw [if_neg q41] at f ⊢
    by_cases qe : si = 124 ∨ si = 59
    · rw [if_pos qe] at f ⊢
      by_cases q59 : si = 59 ∧ k2 ≠ []
      · rw [if_pos q59] at f
        exact (go_no f (by decide)).elim
      rw [if_neg q59] at f ⊢
      by_cases r3 : nr = 20
      · rw [if_pos r3] at f
        exact (go_no f (by decide)).elim
      rw [if_neg r3] at f ⊢
      refine ⟨n01, ?_, Or.inr ⟨n22, rfl, rfl⟩⟩
      show (if si = 59 then (0 : Int) else 2) = 0 ↔ kd = 5 ∧ si = 59
      by_cases u : si = 59
      · rw [if_pos u]
        exact ⟨fun _ => ⟨k5, u⟩, fun _ => rfl⟩
      · rw [if_neg u]
        exact ⟨fun z => by omega, fun z => absurd z.2 u⟩
    rw [if_neg qe] at f ⊢
    by_cases a0 : a = 0
    · rw [if_pos a0] at f
      exact (go_no f (by decide)).elim
    rw [if_neg a0] at f ⊢
    by_cases r3 : nt + md = 8 ∨ 20 < nr + 2
    · rw [if_pos r3] at f
      exact (go_no f (by decide)).elim
    rw [if_neg r3] at f ⊢
    exact ⟨n01, ⟨fun z => absurd (show (2 : Int) = 0 from z) (by decide), fun z => by omega⟩, Or.inr ⟨n22, rfl, rfl⟩⟩
theorem gr_ck_4 {T : Int → Int} {c pl kd si e : Int} (kr : 0 ≤ kd ∧ kd ≤ 5) (tk : gr_tok T c pl kd si e) : gr_ck kd si = 4 ↔ kd = 1 := by
  have mk : kd = 5 → 40 ≤ si := fun y => by
    rw [y] at tk
    have := gr_tok_mark tk
    unfold gr_mark at this
    omega
  unfold gr_ck
  by_cases u : kd = 0
  · rw [if_pos u]
    omega
  rw [if_neg u]
  by_cases v : kd = 1
  · rw [if_pos v]
    omega
  rw [if_neg v]
  by_cases w : kd = 5
  · rw [if_pos w]
    have := mk w
    omega
  · rw [if_neg w]
    omega
theorem gr_ck_1 {T : Int → Int} {c pl kd si e : Int} (kr : 0 ≤ kd ∧ kd ≤ 5) (tk : gr_tok T c pl kd si e) : (gr_ck kd si = 1 ↔ kd = 2) ∧ (gr_ck kd si = 59 ↔ kd = 5 ∧ si = 59) := by
  have mk : kd = 5 → 40 ≤ si := fun y => by
    rw [y] at tk
    have := gr_tok_mark tk
    unfold gr_mark at this
    omega
  unfold gr_ck
  by_cases u : kd = 0
  · rw [if_pos u]
    omega
  rw [if_neg u]
  by_cases v : kd = 1
  · rw [if_pos v]
    omega
  rw [if_neg v]
  by_cases w : kd = 5
  · rw [if_pos w]
    have := mk w
    omega
  · rw [if_neg w]
    omega
/-- a step of a run goes on -/
theorem go_step {T : Int → Int} {c b pl kd si e : Int} {S : go_S} (iv : go_iv T c b S) (b0 : 0 ≤ b) (bc : b ≤ c) (tk : gr_tk T c b pl kd si e) (f : (go_act T c S pl kd si e).1 = 0) : go_iv T c e (go_act T c S pl kd si e).2 ∧ b < e ∧ e ≤ c := by
  have rg := gr_tk_rng b0 bc tk
  have fc := go_act_f iv f
  obtain ⟨n, h1, h2, h3⟩ := tk
  have := rg.2.2.2.2.1 fc.1.2
  have := rg.2.2.2.1 fc.1.1
  exact ⟨go_iv_act iv b0 rg.1 h3 (by omega) rg.2.2.2.2.1 f, by omega, by omega⟩
/-- the names that stood stay -/
theorem go_out_sa {T : Int → Int} {c f pl : Int} {S2 : go_S} : ∀ (n : Nat) (b : Int) (S : go_S), go_iv T c b S → 0 ≤ b → b ≤ c → go_out T c n b S f pl S2 → S.1.2.2.2.2.2 ≤ S2.1.2.2.2.2.2 ∧ ∀ x, x < S.1.2.2.2.2.2 → S2.2.1.2.2.2.2 x = S.2.1.2.2.2.2 x
  | 0, _, _, _, _, _, h => False.elim h
  | n + 1, b, S, iv, b0, bc, ⟨p, kd, si, e, h1, h2⟩ => by
    rcases h2 with ⟨x1, x2, x3, x4⟩ | ⟨x1, x2, x3, x4, x5⟩ | ⟨x1, x2, x3⟩
    · rw [x4]
      exact ⟨Int.le_refl _, fun _ _ => rfl⟩
    · rw [x5]
      exact ⟨Int.le_refl _, fun _ _ => rfl⟩
    · obtain ⟨s1, s2, s3⟩ := go_step iv b0 bc h1 x2
      obtain ⟨y1, y2⟩ := go_out_sa n e _ s1 (by omega) s3 x3
      obtain ⟨z1, z2, z3⟩ := go_act_f iv x2
      rcases z3 with ⟨_, _, z4, z5⟩ | ⟨_, z4, z5⟩
      · rw [z4] at y1 y2
        rw [z5] at y2
        refine ⟨by omega, fun x xl => ?_⟩
        rw [y2 x (by omega), go_upd_i (by omega)]
      · rw [z4] at y1 y2
        rw [z5] at y2
        exact ⟨y1, y2⟩
/-- the first name that isn't told stands at the x-th place -/
def go_un (T : Int → Int) (c : Int) (S : go_S) (x : Int) : Prop := 0 ≤ x ∧ x < S.1.2.2.2.2.2 ∧ ¬ gr_has T c S.1.2.1 S.2.1.1 (S.2.1.2.2.2.2 x) ∧ ∀ y, 0 ≤ y → y < x → gr_has T c S.1.2.1 S.2.1.1 (S.2.1.2.2.2.2 y)
def go_al (T : Int → Int) (c : Int) (S : go_S) : Prop := ∀ y, 0 ≤ y → y < S.1.2.2.2.2.2 → gr_has T c S.1.2.1 S.2.1.1 (S.2.1.2.2.2.2 y)
theorem go_names {T : Int → Int} {c pl0 pos : Int} {N : Nat} {S2 : go_S} {m : gh_M} {Q : Int → gh_M → Prop} (ct : gr_ct T c m) (iv2 : go_iv T c pos S2) (rc : go_rc T c S2 m) (out : go_out T c N 0 go_S0 0 pl0 S2) (H1 : ∀ m2, gx [3] m m2 → (∀ y, y ≠ 2 → y ≠ 3 → y ≠ 4 → m2 3 y = m 3 y) → go_al T c S2 → Q 1 m2) (H0 : ∀ m2 x, gx [3, 5] m m2 → (∀ y, y ≠ 2 → y ≠ 3 → y ≠ 4 → m2 3 y = m 3 y) → m2 5 1 = 5 → m2 5 2 = S2.2.1.2.2.2.2 x → go_un T c S2 x → Q 0 m2) : w_Reader_allNamesHaveRules m Q := by
  have c240 := ct.2.2.1
  unfold w_Reader_allNamesHaveRules w_Tape_rewind
  refine ⟨fun v t m' => ∃ n b S, go_out T c n b S 0 pl0 S2 ∧ go_iv T c b S ∧ (v = 59 ↔ S.1.1 = 0) ∧ 0 ≤ t ∧ t ≤ b ∧ b ≤ c ∧ m' 3 4 = b ∧ gx [3] m m' ∧ (∀ y, y ≠ 2 → y ≠ 3 → y ≠ 4 → m' 3 y = m 3 y) ∧ ∀ y, 0 ≤ y → y < S.1.2.2.2.2.2 → gr_has T c S2.1.2.1 S2.2.1.1 (S2.2.1.2.2.2.2 y), fun v t _ => (300 - t).toNat, ⟨N, 0, go_S0, out, go_iv_0, ⟨fun _ => rfl, fun _ => rfl⟩, Int.le_refl _, Int.le_refl _, ct.2.1, gh_u_s _ _ _ _, gx_one _ _ _ _, fun y y2 y3 y4 => gh_u_i y4, fun y y0 y1 => by have : y < 0 := y1; omega⟩, ?_⟩
  rintro v t m' ⟨n, b, S, out', iv, hv, t0, tb, bc, e4, x', o', tl⟩
  have ct' : gr_ct T c m' := gr_ct_x (o' 1 (by decide) (by decide) (by decide)) (x' 4 (by decide)) ct
  unfold f_Reader_allNamesHaveRules_12
  refine ⟨fun _ => ?_, fun z => by omega⟩
  refine gr_advance ct' (by omega) bc e4 (fun m2 p kd si e tk x2 o2 s3 s4 s2 => ?_)
  have rg := gr_tk_rng (by omega) bc tk
  have tk0 := tk
  obtain ⟨_, _, _, tk1⟩ := tk0
  have ck4 := gr_ck_4 rg.2.2.2.2.2.1 tk1
  have ck1 := gr_ck_1 rg.2.2.2.2.2.1 tk1
  have x2' : gx [3] m m2 := gx_t x' x2
  have o2' : ∀ y, y ≠ 2 → y ≠ 3 → y ≠ 4 → m2 3 y = m 3 y := fun y y2 y3 y4 => by rw [o2 y y2 y3 y4, o' y y2 y3 y4]
  have ct2 : gr_ct T c m2 := gr_ct_x (o2' 1 (by decide) (by decide) (by decide)) (x2' 4 (by decide)) ct
  rw [s2]
  cases n with
  | zero => exact False.elim out'
  | succ n' =>
    obtain ⟨p', kd', si', e', h1, h2⟩ := out'
    obtain ⟨a1, a2, a3, a4⟩ := gr_tk_u tk h1
    rw [← a1, ← a2, ← a3, ← a4] at h2
    clear h1 a1 a2 a3 a4
    rcases h2 with ⟨x1, _, _, x4⟩ | ⟨x1, x2', x3, _⟩ | ⟨w1, w2, w3⟩
    · have k1 : kd = 1 := x1.2.1
      refine ⟨True, fun _ => ⟨fun _ => H1 m2 x2' o2' (fun y y0 y1 => tl y y0 (by rw [x4] at y1; exact y1)), fun z => absurd (ck4.mpr k1) z⟩, fun _ => trivial, fun z => ?_⟩
      refine absurd (Or.inl (fun w => ?_)) z
      have := ck1.1.mp w
      omega
    · exact absurd x3.symm x2'
    · obtain ⟨s1', s2', s3'⟩ := go_step iv (by omega) bc tk w2
      obtain ⟨z1, z2, z3⟩ := go_act_f iv w2
      have pf := go_out_sa n' e _ s1' (by omega) s3' w3
      refine ⟨kd = 2 → S.1.1 ≠ 0 → gr_has T c S2.1.2.1 S2.2.1.1 p, fun j => ⟨fun z => absurd (ck4.mp z) z1.2, fun _ v' hv' => ⟨by omega, ?_⟩⟩, fun z k2 s0 => ?_, fun z => ?_⟩
      · rw [hv']
        refine ⟨⟨n', e, _, w3, s1', ck1.2.trans z2.symm, by omega, by omega, s3', s4, x2', o2', ?_⟩, by (try dsimp only); omega⟩
        rcases z3 with ⟨y1, y2, y3, y4⟩ | ⟨y1, y3, y4⟩
        · rw [y3]
          intro y y0 yl
          by_cases u : y = S.1.2.2.2.2.2
          · rw [pf.2 y (by rw [y3]; exact yl), y4, u, go_upd_s]
            exact j y2 (by omega)
          · exact tl y y0 (by omega)
        · rw [y3]
          exact tl
      · rcases z with z | z
        · exact absurd (ck1.1.mpr k2) z
        · exact absurd (hv.mp z) s0
      · have k2 : kd = 2 := by
          refine ck1.1.mp ?_
          by_cases u : gr_ck kd si = 1
          · exact u
          · exact absurd (Or.inl u) z
        have s0 : S.1.1 ≠ 0 := fun u => z (Or.inr (hv.mpr u))
        rw [k2] at tk1
        obtain ⟨d, hd, he⟩ := gr_tok_nm (by omega) tk1
        have e61 : m2 6 1 = S2.1.2.1 := by
          rw [x2' 6 (by decide)]
          exact rc.1.2.1
        refine gr_key ct2 hd s3 (by omega) (gr_find (q := p) iv2.2.1 e61 (fun x x0 x1 => by rw [x2' 7 (by decide)]; exact rc.2.1 x x0 x1) ⟨d, hd, rfl⟩ (fun x hx => ⟨fun w => ?_, fun _ => fun _ _ => ⟨x, hx⟩⟩) (fun no => ⟨fun _ => ?_, fun w => absurd rfl w⟩))
        · have := hx.1
          omega
        · rcases z3 with ⟨y1, y2, y3, y4⟩ | ⟨y1, y3, y4⟩
          · rw [y3, y4] at pf
            have ep := pf.2 S.1.2.2.2.2.2 (by omega)
            rw [go_upd_s] at ep
            have i0 := iv.2.2.2.2.1.1
            refine H0 _ S.1.2.2.2.2.2 (gx_u (gx_u (gx_sub x2' (by decide)) (by decide)) (by decide)) (fun y y2 y3 y4 => by rw [gh_u_a (by decide), gh_u_a (by decide)]; exact o2' y y2 y3 y4) (by rw [gh_u_i (by decide), gh_u_s]) (by rw [gh_u_s, s3, ep]) ⟨i0, by omega, by rw [ep]; exact no, tl⟩
          · exfalso
            have i1 := iv.1
            have st1 : S.1.1 = 1 := by omega
            have : (go_act T c S p kd si e).1 = 2 := by
              unfold go_act
              rw [if_neg (by omega), if_neg s0, if_pos st1, if_neg (by omega)]
            omega
/-- what a reading tells: a fault at a place, or 0, and the rows then -/
def go_res (T : Int → Int) (c f pl : Int) (S : go_S) : Prop := ∃ N f1 pl1, go_out T c N 0 go_S0 f1 pl1 S ∧ ((f1 ≠ 0 ∧ f = f1 ∧ pl = pl1) ∨ (f1 = 0 ∧ f = 5 ∧ ∃ x, go_un T c S x ∧ pl = S.2.1.2.2.2.2 x) ∨ (f1 = 0 ∧ f = 0 ∧ pl = -1 ∧ go_al T c S))
theorem go_un_u {T : Int → Int} {c x y : Int} {S : go_S} (h : go_un T c S x) (h2 : go_un T c S y) : x = y := by
  by_cases a : x < y
  · exact absurd (h2.2.2.2 x h.1 a) h.2.2.1
  · by_cases b : y < x
    · exact absurd (h.2.2.2 y h2.1 b) h2.2.2.1
    · omega
theorem go_res_u {T : Int → Int} {c f pl f' pl' : Int} {S S' : go_S} (h : go_res T c f pl S) (h' : go_res T c f' pl' S') : f = f' ∧ pl = pl' ∧ S = S' := by
  obtain ⟨N, f1, p1, o, h⟩ := h
  obtain ⟨N', f1', p1', o', h'⟩ := h'
  obtain ⟨e1, e2, e3⟩ := go_out_u N N' 0 go_S0 o o'
  rw [← e1, ← e2, ← e3] at h'
  rcases h with ⟨a1, a2, a3⟩ | ⟨a1, a2, x, a3, a4⟩ | ⟨a1, a2, a3, a4⟩
  · rcases h' with ⟨b1, b2, b3⟩ | ⟨b1, _⟩ | ⟨b1, _⟩
    · exact ⟨by omega, by omega, e3⟩
    · exact absurd b1 a1
    · exact absurd b1 a1
  · rcases h' with ⟨b1, _⟩ | ⟨b1, b2, y, b3, b4⟩ | ⟨b1, b2, b3, b4⟩
    · exact absurd a1 b1
    · have e := go_un_u a3 b3
      rw [← e] at b4
      exact ⟨by omega, by omega, e3⟩
    · exact absurd (b4 x a3.1 a3.2.1) a3.2.2.1
  · rcases h' with ⟨b1, _⟩ | ⟨b1, b2, y, b3, b4⟩ | ⟨b1, b2, b3, b4⟩
    · exact absurd a1 b1
    · exact absurd (a4 y b3.1 b3.2.1) b3.2.2.1
    · exact ⟨by omega, by omega, e3⟩
theorem go_run {T : Int → Int} {c : Int} {m : gh_M} {Q : Int → gh_M → Prop} (ct : gr_ct T c m) (H : ∀ m2 r f pl S, gx [3, 5, 6, 7, 8, 9, 10, 11, 12] m m2 → (∀ y, y ≠ 2 → y ≠ 3 → y ≠ 4 → m2 3 y = m 3 y) → go_res T c f pl S → m2 5 1 = f → m2 5 2 = pl → (r = 0 ∧ f ≠ 0) ∨ (r = 1 ∧ f = 0 ∧ go_rc T c S m2 ∧ (∃ pos, go_iv T c pos S) ∧ S.1.1 = 0 ∧ 0 < S.1.2.1) → Q r m2) : w_Reader_run m Q := by
  have c240 := ct.2.2.1
  unfold w_Reader_run w_Draft_clear w_Tape_rewind
  obtain ⟨m1, hm1⟩ : ∃ m1, m1 = gh_u (gh_u (gh_u (gh_u (gh_u (gh_u (gh_u m 6 1 0) 6 2 0) 6 3 0) 3 4 0) 5 4 0) 5 1 0) 5 2 (-1) := ⟨_, rfl⟩
  (try dsimp only)
  rw [← hm1]
  have x1 : gx [3, 5, 6] m m1 := by
    rw [hm1]
    exact gx_u (gx_u (gx_u (gx_u (gx_u (gx_u (gx_u gx_rf (by decide)) (by decide)) (by decide)) (by decide)) (by decide)) (by decide)) (by decide)
  have o1 : ∀ y, y ≠ 4 → m1 3 y = m 3 y := fun y yn => by
    rw [hm1, gh_u_a (by decide), gh_u_a (by decide), gh_u_a (by decide), gh_u_i yn, gh_u_a (by decide), gh_u_a (by decide), gh_u_a (by decide)]
  have s34 : m1 3 4 = 0 := by
    rw [hm1, gh_u_a (by decide), gh_u_a (by decide), gh_u_a (by decide), gh_u_s]
  have s54 : m1 5 4 = 0 := by
    rw [hm1, gh_u_i (by decide), gh_u_i (by decide), gh_u_s]
  have s51 : m1 5 1 = 0 := by
    rw [hm1, gh_u_i (by decide), gh_u_s]
  have s52 : m1 5 2 = -1 := by
    rw [hm1, gh_u_s]
  have s61 : m1 6 1 = 0 := by
    rw [hm1, gh_u_a (by decide), gh_u_a (by decide), gh_u_a (by decide), gh_u_a (by decide), gh_u_i (by decide), gh_u_i (by decide), gh_u_s]
  have s62 : m1 6 2 = 0 := by
    rw [hm1, gh_u_a (by decide), gh_u_a (by decide), gh_u_a (by decide), gh_u_a (by decide), gh_u_i (by decide), gh_u_s]
  have s63 : m1 6 3 = 0 := by
    rw [hm1, gh_u_a (by decide), gh_u_a (by decide), gh_u_a (by decide), gh_u_a (by decide), gh_u_s]
  clear hm1
  refine ⟨fun t m' => ∃ b S, 0 ≤ t ∧ t ≤ b ∧ b ≤ c ∧ go_iv T c b S ∧ go_rc T c S m' ∧ m' 3 4 = b ∧ gx [3, 5, 6, 7, 8, 9, 10, 11, 12] m m' ∧ (∀ y, y ≠ 2 → y ≠ 3 → y ≠ 4 → m' 3 y = m 3 y) ∧ m' 5 1 = 0 ∧ m' 5 2 = -1 ∧ ∀ n f pl S2, go_out T c n b S f pl S2 → go_out T c (t.toNat + n) 0 go_S0 f pl S2, fun t _ => (300 - t).toNat, ⟨0, go_S0, Int.le_refl _, Int.le_refl _, ct.2.1, go_iv_0, go_rc_0 s54 s61 s62 s63, s34, gx_sub x1 (by decide), fun y _ _ y4 => o1 y y4, s51, s52, fun n f pl S2 h => ?_⟩, ?_⟩
  · have : (0 : Int).toNat + n = n := by omega
    rw [this]
    exact h
  rintro t m' ⟨b, S, t0, tb, bc, iv, rc, e4, x', o', e51, e52, out⟩
  have ct' : gr_ct T c m' := gr_ct_x (o' 1 (by decide) (by decide) (by decide)) (x' 4 (by decide)) ct
  unfold f_Reader_run_31
  refine ⟨fun m' => ∃ N pl S, go_out T c N 0 go_S0 0 pl S ∧ (∃ pos, go_iv T c pos S) ∧ S.1.1 = 0 ∧ 0 < S.1.2.1 ∧ go_rc T c S m' ∧ gx [3, 5, 6, 7, 8, 9, 10, 11, 12] m m' ∧ (∀ y, y ≠ 2 → y ≠ 3 → y ≠ 4 → m' 3 y = m 3 y) ∧ m' 5 1 = 0 ∧ m' 5 2 = -1, ?_, fun _ => ?_, fun z => by omega⟩
  · rintro m3 ⟨N, pl, S2, w1, ⟨pos, w2⟩, w2a, w2b, w3, w4, w5, w6, w7⟩
    have ct3 : gr_ct T c m3 := gr_ct_x (w5 1 (by decide) (by decide) (by decide)) (w4 4 (by decide)) ct
    refine go_names ct3 w2 w3 w1 (fun m4 x4 o4 al => ⟨Or.inr rfl, ?_⟩) (fun m4 x x4 o4 s1 s2 un => ⟨Or.inl rfl, ?_⟩)
    · exact H m4 1 0 (-1) S2 (gx_t w4 (gx_sub x4 (by decide))) (fun y y2 y3 y4 => by rw [o4 y y2 y3 y4]; exact w5 y y2 y3 y4) ⟨N, 0, pl, w1, Or.inr (Or.inr ⟨rfl, rfl, rfl, al⟩)⟩ (by rw [x4 5 (by decide)]; exact w6) (by rw [x4 5 (by decide)]; exact w7) (Or.inr ⟨rfl, rfl, go_skc_x (fun a a0 a1 => x4 a (fun z => by have := List.mem_singleton.mp z; omega)) w3, ⟨pos, w2⟩, w2a, w2b⟩)
    · exact H m4 0 5 _ S2 (gx_t w4 (gx_sub x4 (by decide))) (fun y y2 y3 y4 => by rw [o4 y y2 y3 y4]; exact w5 y y2 y3 y4) ⟨N, 0, pl, w1, Or.inr (Or.inl ⟨rfl, rfl, x, un, rfl⟩)⟩ s1 s2 (Or.inl ⟨rfl, by decide⟩)
  refine gr_advance ct' (by omega) bc e4 (fun m2 p kd si e tk x2 o2 s3 s4 s2 => ?_)
  have rg := gr_tk_rng (by omega) bc tk
  have tk0 := tk
  obtain ⟨_, _, _, tk1⟩ := tk0
  have ck4 := gr_ck_4 rg.2.2.2.2.2.1 tk1
  have x2' : gx [3, 5, 6, 7, 8, 9, 10, 11, 12] m m2 := gx_t x' (gx_sub x2 (by decide))
  have o2' : ∀ y, y ≠ 2 → y ≠ 3 → y ≠ 4 → m2 3 y = m 3 y := fun y y2 y3 y4 => by rw [o2 y y2 y3 y4, o' y y2 y3 y4]
  have ct2 : gr_ct T c m2 := gr_ct_x (o2' 1 (by decide) (by decide) (by decide)) (x2' 4 (by decide)) ct
  have rc2 : go_rc T c S m2 := go_skc_x (fun a a0 a1 => x2 a (fun z => by have := List.mem_singleton.mp z; omega)) rc
  have e512 : m2 5 1 = 0 := by
    rw [x2 5 (by decide)]
    exact e51
  have e522 : m2 5 2 = -1 := by
    rw [x2 5 (by decide)]
    exact e52
  have ec : e ≤ 1000 := by
    rcases tk1 with ⟨a1, a2, a3, a4⟩ | ⟨a1, a2, a3⟩
    · omega
    · rcases a3 with ⟨c1, c2, d, c3, c4, c5⟩ | ⟨c1, d, c3, c4, c5⟩ | ⟨c1, c2, c3⟩ | ⟨c1, c2, c3, c4, c5⟩
      · by_cases u : d = 0
        · omega
        · have := c3.2.1 (d - 1) (by have := c3.1; omega) (by omega)
          unfold gr_in at this
          omega
      · by_cases u : d = 0
        · omega
        · have := c3.2.1 (d - 1) (by have := c3.1; omega) (by omega)
          unfold gr_in at this
          omega
      · omega
      · omega
  refine go_faultHere ct2 iv rc2 (by omega) rg.2.1 ec rg.2.2.2.2.2.2.1 rg.2.2.2.2.2.1 tk1 s2 s3 s4 (fun h0 h1 h2 => ⟨fun _ => ⟨fun _ => ?_, fun z => ?_⟩, fun z => absurd rfl z⟩) (fun ns => ⟨fun r0 => ⟨fun z => ?_, fun z => ?_⟩, fun r0 => ?_⟩)
  · exact ⟨t.toNat + 1, p, S, out 1 0 p S ⟨p, kd, si, e, tk, Or.inl ⟨⟨h0, h1, h2⟩, rfl, rfl, rfl⟩⟩, ⟨b, iv⟩, h0, h2, rc2, x2', o2', e512, e522⟩
  · rw [s2] at z
    exact absurd (ck4.mpr h1) z
  · rw [s2] at z
    exact absurd (ck4.mp z) (go_act_f iv r0).1.2
  · obtain ⟨s1', s2', s3'⟩ := go_step iv (by omega) bc tk r0
    refine go_take ct2 iv rc2 (by omega) rg.2.1 rg.2.2.2.2.2.2.1 ec rg.2.2.2.2.2.1 tk1 s2 s3 s4 r0 (fun m5 x5 o5 rc5 => ⟨by omega, ⟨e, _, by omega, by omega, s3', s1', rc5, by rw [x5 3 (by decide)]; exact s4, gx_t x2' (gx_sub x5 (by decide)), fun y y2 y3 y4 => by rw [x5 3 (by decide)]; exact o2' y y2 y3 y4, by rw [o5 1 (by decide)]; exact e512, by rw [o5 2 (by decide)]; exact e522, fun n f pl S2 h => ?_⟩, by (try dsimp only); omega⟩)
    have := out (n + 1) f pl S2 ⟨p, kd, si, e, tk, Or.inr (Or.inr ⟨ns, r0, h⟩)⟩
    have e1 : (t + 1).toNat + n = t.toNat + (n + 1) := by omega
    rw [e1]
    exact this
  · refine H _ 0 (go_act T c S p kd si e).1 p S (gx_u (gx_u (gx_sub x2' (by decide)) (by decide)) (by decide)) (fun y y2 y3 y4 => by rw [gh_u_a (by decide), gh_u_a (by decide)]; exact o2' y y2 y3 y4) ⟨t.toNat + 1, (go_act T c S p kd si e).1, p, out 1 _ p S ⟨p, kd, si, e, tk, Or.inr (Or.inl ⟨ns, r0, rfl, rfl, rfl⟩)⟩, Or.inl ⟨r0, rfl, rfl⟩⟩ (by rw [gh_u_i (by decide), gh_u_s]) (by rw [gh_u_s, s3]) (Or.inl ⟨rfl, r0⟩)

