/-! READING: the class tells a token's fault -/
theorem go_faultHere {T : Int → Int} {c pos pl kd si e : Int} {S : go_S} {m : gh_M} {Q : Int → Prop} (ct : gr_ct T c m) (iv : go_iv T c pos S) (rc : go_rc T c S m) (pl0 : 0 ≤ pl) (plc : pl ≤ c) (e240 : e ≤ 1000) (ple : pl ≤ e) (kr : 0 ≤ kd ∧ kd ≤ 5) (tk : gr_tok T c pl kd si e) (e2 : m 3 2 = gr_ck kd si) (e3 : m 3 3 = pl) (e4 : m 3 4 = e) (HE : S.1.1 = 0 → kd = 1 → 0 < S.1.2.1 → Q 0) (H : ¬ (S.1.1 = 0 ∧ kd = 1 ∧ 0 < S.1.2.1) → Q (go_act T c S pl kd si e).1) : w_Reader_faultHere m Q := by
  obtain ⟨⟨st, nt, md, nr, br, ns⟩, ⟨ta, ow, rl, mb, sa⟩, sk⟩ := S
  obtain ⟨i1, i2, i3, i4, i5, i6, i7, ⟨i8, i9, i10, i11, i12⟩, i13, i14, i15⟩ := iv
  obtain ⟨⟨r1, r2, r3, r4⟩, r5, r6, r7⟩ := rc
  (try dsimp only at i1 i2 i3 i4 i5 i6 i7 i8 i9 i10 i11 i12 i13 i14 i15 r1 r2 r3 r4 r5 r6 r7 HE H)
  have i2a : 0 ≤ nt ∧ nt ≤ 8 := i2.1
  have mark : kd = 5 → gr_mark si := fun y => by
    rw [y] at tk
    exact gr_tok_mark tk
  have ck : (kd = 0 → m 3 2 = 5) ∧ (kd = 1 → m 3 2 = 4) ∧ (kd = 2 → m 3 2 = 1) ∧ (kd = 3 → m 3 2 = 2) ∧ (kd = 4 → m 3 2 = 3) ∧ (kd = 5 → m 3 2 = si) := by
    rw [e2]
    refine ⟨fun y => by rw [y]; rfl, fun y => by rw [y]; rfl, fun y => by rw [y]; rfl, fun y => by rw [y]; rfl, fun y => by rw [y]; rfl, fun y => by rw [y]; rfl⟩
  have m58 : kd = 5 → 40 ≤ m 3 2 := fun y => by
    have := mark y
    have := ck.2.2.2.2.2 y
    unfold gr_mark at *
    omega
  unfold w_Reader_faultHere
  refine ⟨fun y => ?_, fun y => ?_⟩
  · have k0 : kd = 0 := by omega
    have h := H (by omega)
    unfold go_act at h
    rw [if_pos k0] at h
    exact h
  have k0 : kd ≠ 0 := fun z => y (ck.1 z)
  unfold go_act at H
  rw [if_neg k0] at H
  (try dsimp only at H)
  unfold w_Reader_canStand
  rw [r1]
  refine ⟨fun s0 => ?_, fun s0 => ?_⟩
  · -- at a name
    rw [if_pos s0] at H
    by_cases k2 : kd = 2
    · have e32 := ck.2.2.1 k2
      rw [if_pos (Or.inl e32)]
      refine ⟨fun z => absurd z (by decide), fun _ => ?_⟩
      rw [if_pos k2] at H
      rw [k2] at tk
      obtain ⟨d, hd, he⟩ := gr_tok_nm pl0 tk
      have hk : gr_kof T c pl (gr_kf T d pl) := ⟨d, hd, rfl⟩
      have fnd : ∀ Q1 : Int → Prop, (∀ x, gr_td T c nt ta pl x → Q1 x) → (¬ gr_has T c nt ta pl → Q1 (-1)) → w_Tape_key m (fun r => w_Draft_find r m Q1) := fun Q1 h1 h0 => gr_key ct hd e3 (by omega) (gr_find i2 r2 r5 hk h1 h0)
      have last : (gr_has T c nt ta pl → Q 4) → (¬ gr_has T c nt ta pl → Q 0) → ∃ J71 : Prop, (J71 → Q 0) ∧ ((st = 0 ∧ (1 : Int) = 1) → w_Tape_key m (fun r555 => w_Draft_find r555 m (fun r557 => ((r557 = (-1) → J71) ∧ (¬ (r557 = (-1)) → Q 4))))) ∧ (¬ (st = 0 ∧ (1 : Int) = 1) → J71) := by
        intro h4 h0
        refine ⟨¬ gr_has T c nt ta pl, h0, fun _ => fnd _ (fun x hx => ⟨fun z => ?_, fun _ => h4 ⟨x, hx⟩⟩) (fun no => ⟨fun _ => no, fun z => absurd rfl z⟩), fun z => absurd ⟨s0, rfl⟩ z⟩
        have := hx.1
        omega
      unfold w_Reader_isTooMuch k_Draft_allNames x_Draft_allNames
      rw [r1, r2, r3, e32]
      refine ⟨fun _ => ⟨fun _ => ⟨by omega, ¬ (nt + md = 8 ∧ ¬ gr_has T c nt ta pl), fun j => ⟨fun _ => ?_, fun z => absurd rfl z⟩, fun z => fun w => by omega, fun z => fnd _ (fun x hx => ⟨fun w => ?_, fun _ => fun w => w.2 ⟨x, hx⟩⟩) (fun no => ⟨fun _ => ⟨fun w => absurd w (by decide), fun _ => ?_⟩, fun w => absurd rfl w⟩)⟩, fun z => absurd s0 z⟩, fun w => absurd w (by decide), fun w => absurd w (by decide), fun w => by omega, fun w => by omega, fun w => absurd (Or.inl rfl) w⟩
      · refine last (fun hs => ?_) (fun hs => ?_)
        · have h := H (by omega)
          rw [if_pos hs] at h
          exact h
        · have h := H (by omega)
          rw [if_neg hs] at h
          by_cases n8 : nt + md = 8
          · exact absurd ⟨n8, hs⟩ j
          · rw [if_neg n8] at h
            exact h
      · have := hx.1
        omega
      · have h := H (by omega)
        rw [if_neg no, if_pos (by omega)] at h
        exact h
    · rw [if_neg k2] at H
      by_cases k1 : kd = 1 ∧ 0 < nt
      · have e32 := ck.2.1 k1.1
        rw [r2, e32, if_pos (Or.inr ⟨rfl, by omega⟩)]
        refine ⟨fun z => absurd z (by decide), fun _ => ?_⟩
        unfold w_Reader_isTooMuch
        rw [e32]
        refine ⟨fun w => by omega, fun w => by omega, fun w => by omega, fun w => by omega, fun w => by omega, fun _ _ _ _ _ => ⟨fun _ => ⟨True, fun _ => HE s0 k1.1 k1.2, fun w => by omega, fun _ => trivial⟩, fun w => absurd rfl w⟩⟩
      · have n1 : ¬ (m 3 2 = 1 ∨ (m 3 2 = 4 ∧ ¬ m 6 1 ≤ 0)) := by
          have k5 : kd = 1 ∨ kd = 3 ∨ kd = 4 ∨ kd = 5 := by omega
          rw [r2]
          rcases k5 with k | k | k | k
          · have := ck.2.1 k
            omega
          · have := ck.2.2.2.1 k
            omega
          · have := ck.2.2.2.2.1 k
            omega
          · have := m58 k
            omega
        rw [if_neg n1]
        exact ⟨fun _ => H (fun w => k1 w.2), fun z => absurd rfl z⟩
  rw [if_neg s0] at H
  have H := H (fun w => s0 w.1)
  refine ⟨fun s1 => ?_, fun s1 => ?_⟩
  · -- at a colon
    rw [if_pos s1] at H
    by_cases c5 : kd = 5 ∧ si = 58
    · have e32 : m 3 2 = 58 := (ck.2.2.2.2.2 c5.1).trans c5.2
      rw [if_pos c5] at H
      rw [e32, if_pos rfl]
      refine ⟨fun z => absurd z (by decide), fun _ => ?_⟩
      unfold w_Reader_isTooMuch
      rw [e32]
      refine ⟨fun w => by omega, fun w => by omega, fun w => by omega, fun w => by omega, fun w => by omega, fun _ _ _ _ _ => ⟨fun _ => ⟨True, fun _ => H, fun w => by omega, fun _ => trivial⟩, fun w => absurd rfl w⟩⟩
    · rw [if_neg c5] at H
      have n1 : ¬ m 3 2 = 58 := fun w => by
        have k5 : kd = 1 ∨ kd = 2 ∨ kd = 3 ∨ kd = 4 ∨ kd = 5 := by omega
        rcases k5 with k | k | k | k | k
        · have := ck.2.1 k
          omega
        · have := ck.2.2.1 k
          omega
        · have := ck.2.2.2.1 k
          omega
        · have := ck.2.2.2.2.1 k
          omega
        · have := ck.2.2.2.2.2 k
          exact c5 ⟨k, by omega⟩
      rw [if_neg n1]
      exact ⟨fun _ => H, fun z => absurd rfl z⟩
  -- in a row
  rw [if_neg s1] at H
  have s2 : st = 2 := by omega
  obtain ⟨r8, r9, r10⟩ := r7 s2
  have zero : ∀ X : Int, Q 0 → ∃ J71 : Prop, (J71 → Q 0) ∧ ((st = 0 ∧ X = 1) → w_Tape_key m (fun r555 => w_Draft_find r555 m (fun r557 => ((r557 = (-1) → J71) ∧ (¬ (r557 = (-1)) → Q 4))))) ∧ (¬ (st = 0 ∧ X = 1) → J71) := fun X q => ⟨True, fun _ => q, fun w => absurd w.1 s0, fun _ => trivial⟩
  cases sk with
  | nil => exact absurd rfl (i11 s2)
  | cons x k2 =>
    obtain ⟨b, ps, a⟩ := x
    obtain ⟨⟨q1, q2, q3, q4, q5⟩, q6⟩ := i9
    obtain ⟨t1, t2, t3⟩ := r9
    have lc := go_len_cons (x := (b, ps, a)) (k := k2)
    have e5 : m 5 5 = k2.length := by omega
    (try dsimp only at H)
    unfold go_row at H
    have wid : kd = 2 ∨ kd = 3 ∨ kd = 4 → k_Tape_width m ∧ x_Tape_width m = go_w kd pl e := fun w => by
      unfold k_Tape_width x_Tape_width go_w
      rw [e3, e4]
      refine ⟨fun _ => by omega, ?_⟩
      by_cases u : kd = 3
      · rw [if_pos (ck.2.2.2.1 u), if_pos u]
      · rw [if_neg u, if_neg (fun z => ?_)]
        rcases w with w | w | w
        · have := ck.2.2.1 w
          omega
        · exact u w
        · have := ck.2.2.2.2.1 w
          omega
    by_cases w : kd = 2 ∨ kd = 3 ∨ kd = 4
    · rw [if_pos w] at H
      obtain ⟨n1, n2, n3⟩ := go_new_v (md := md) pl0 tk w
      have e32 : m 3 2 = 1 ∨ m 3 2 = 2 ∨ m 3 2 = 3 := by
        rcases w with w | w | w
        · exact Or.inl (ck.2.2.1 w)
        · exact Or.inr (Or.inl (ck.2.2.2.1 w))
        · exact Or.inr (Or.inr (ck.2.2.2.2.1 w))
      have ww := wid w
      refine ⟨fun _ => ⟨fun z => absurd z (by decide), fun _ => ?_⟩, fun z => by omega, fun z => by omega, fun z => by omega, fun z => by omega⟩
      unfold w_Reader_isTooMuch
      rw [r1, e5, ww.2, t1]
      refine ⟨fun _ => ⟨fun z => absurd z s0, fun _ => ⟨by omega, by omega, ww.1, by omega, ?_⟩⟩, fun z => by omega, fun z => by omega, fun z => by omega, fun z => by omega, fun z => absurd e32 z⟩
      by_cases w4 : 4 < (ps.length : Int) + go_w kd pl e
      · rw [if_pos w4] at H
        rw [if_pos (by omega)]
        exact ⟨fun z => absurd z (by decide), fun _ => H⟩
      · rw [if_neg w4] at H
        rw [if_neg (by omega)]
        exact ⟨fun _ => zero _ H, fun z => absurd rfl z⟩
    rw [if_neg w] at H
    by_cases k1 : kd = 1
    · have e32 := ck.2.1 k1
      rw [if_pos (Or.inl (by omega))] at H
      rw [e32]
      exact ⟨fun z => by omega, fun z => by omega, fun z => by omega, fun z => by omega, fun _ _ _ _ => ⟨fun _ => H, fun z => absurd rfl z⟩⟩
    have k5 : kd = 5 := by omega
    have e32 := ck.2.2.2.2.2 k5
    have mk := mark k5
    unfold gr_mark at mk
    rw [e32]
    by_cases q58 : si = 58
    · rw [if_pos (Or.inr q58)] at H
      exact ⟨fun z => by omega, fun z => by omega, fun z => by omega, fun z => by omega, fun _ _ _ _ => ⟨fun _ => H, fun z => absurd rfl z⟩⟩
    rw [if_neg (fun z => z.elim (fun y => y k5) q58)] at H
    by_cases q40 : si = 40
    · rw [if_pos q40] at H
      refine ⟨fun _ => ⟨fun z => absurd z (by decide), fun _ => ?_⟩, fun z => by omega, fun z => by omega, fun z => by omega, fun z => by omega⟩
      unfold w_Reader_isTooMuch
      rw [e5, e32]
      refine ⟨fun z => by omega, fun _ => ?_, fun z => by omega, fun z => by omega, fun z => by omega, fun _ z => absurd q40 z⟩
      by_cases l3 : k2.length = 3
      · rw [if_pos l3] at H
        rw [if_pos (by omega)]
        exact ⟨fun z => absurd z (by decide), fun _ => H⟩
      · rw [if_neg l3] at H
        rw [if_neg (by omega)]
        exact ⟨fun _ => zero _ H, fun z => absurd rfl z⟩
    rw [if_neg q40] at H
    by_cases q41 : si = 41
    · rw [if_pos q41] at H
      refine ⟨fun z => by omega, fun _ => ?_, fun z => by omega, fun z => by omega, fun z => by omega⟩
      cases k2 with
      | nil =>
        have e5' : m 5 5 = 0 := e5
        rw [if_neg (by omega)]
        exact ⟨fun _ => H, fun z => absurd rfl z⟩
      | cons x2 k3 =>
        obtain ⟨b2, ps2, a2⟩ := x2
        have lc2 := go_len_cons (x := (b2, ps2, a2)) (k := k3)
        rw [if_pos (by omega)]
        refine ⟨fun z => absurd z (by decide), fun _ => ?_⟩
        obtain ⟨u1, u2, u3⟩ := t3
        have e1 : m 5 5 - 1 = k3.length := by omega
        unfold w_Reader_isTooMuch k_Draft_allNames x_Draft_allNames
        rw [e1, u1, r4, r2, r3, e32]
        refine ⟨fun z => by omega, fun z => by omega, fun _ => ⟨fun _ => ⟨by omega, fun _ _ => by omega⟩, ?_⟩, fun z => by omega, fun z => by omega, fun _ _ z => absurd q41 z⟩
        (try dsimp only at H)
        have g4 := q6.1.1
        by_cases rr : nr = 20 ∨ nt + md = 8 ∨ ps2.length = 4
        · rw [if_pos rr] at H
          rw [if_pos (by omega)]
          exact ⟨fun z => absurd z (by decide), fun _ => H⟩
        · rw [if_neg rr] at H
          rw [if_neg (by omega)]
          exact ⟨fun _ => zero _ H, fun z => absurd rfl z⟩
    rw [if_neg q41] at H
    by_cases qe : si = 124 ∨ si = 59
    · rw [if_pos qe] at H
      by_cases q59 : si = 59
      · refine ⟨fun z => by omega, fun z => by omega, fun z => by omega, fun _ => ?_, fun z => by omega⟩
        rw [e5]
        by_cases u : k2 = []
        · rw [if_neg (fun z => z.2 u)] at H
          rw [u, if_pos (show ((([] : go_K).length : Nat) : Int) = 0 from rfl)]
          refine ⟨fun z => absurd z (by decide), fun _ => ?_⟩
          unfold w_Reader_isTooMuch
          rw [r4, e32]
          refine ⟨fun z => by omega, fun z => by omega, fun z => by omega, fun z => by omega, fun _ => ?_, fun _ _ _ _ z => by omega⟩
          by_cases rr : nr = 20
          · rw [if_pos rr] at H
            rw [if_pos (by omega)]
            exact ⟨fun z => absurd z (by decide), fun _ => H⟩
          · rw [if_neg rr] at H
            rw [if_neg (by omega)]
            exact ⟨fun _ => zero _ H, fun z => absurd rfl z⟩
        · rw [if_pos ⟨q59, u⟩] at H
          have : k2.length ≠ 0 := fun z => u (List.eq_nil_of_length_eq_zero z)
          rw [if_neg (by omega)]
          exact ⟨fun _ => H, fun z => absurd rfl z⟩
      · rw [if_neg (fun z => q59 z.1)] at H
        refine ⟨fun _ => ⟨fun z => absurd z (by decide), fun _ => ?_⟩, fun z => by omega, fun z => by omega, fun z => by omega, fun z => by omega⟩
        unfold w_Reader_isTooMuch
        rw [r4, e32]
        refine ⟨fun z => by omega, fun z => by omega, fun z => by omega, fun z => by omega, fun _ => ?_, fun _ _ _ _ z => by omega⟩
        by_cases rr : nr = 20
        · rw [if_pos rr] at H
          rw [if_pos (by omega)]
          exact ⟨fun z => absurd z (by decide), fun _ => H⟩
        · rw [if_neg rr] at H
          rw [if_neg (by omega)]
          exact ⟨fun _ => zero _ H, fun z => absurd rfl z⟩
    rw [if_neg qe] at H
    refine ⟨fun z => by omega, fun z => by omega, fun _ => ?_, fun z => by omega, fun z => by omega⟩
    have ea : m 5 6 = a := r10
    rw [ea]
    by_cases a0 : a = 0
    · rw [if_pos a0] at H
      rw [if_neg (by omega)]
      exact ⟨fun _ => H, fun z => absurd rfl z⟩
    · rw [if_neg a0] at H
      rw [if_pos (by omega)]
      refine ⟨fun z => absurd z (by decide), fun _ => ?_⟩
      unfold w_Reader_isTooMuch k_Draft_allNames x_Draft_allNames
      rw [r4, r2, r3, e32]
      refine ⟨fun z => by omega, fun z => by omega, fun z => by omega, fun _ => ⟨by omega, fun _ => by omega, ?_⟩, fun z => by omega, fun _ _ _ z => absurd (by omega) z⟩
      by_cases rr : nt + md = 8 ∨ 20 < nr + 2
      · rw [if_pos rr] at H
        rw [if_pos (by omega)]
        exact ⟨fun z => absurd z (by decide), fun _ => H⟩
      · rw [if_neg rr] at H
        rw [if_neg (by omega)]
        exact ⟨fun _ => zero _ H, fun z => absurd rfl z⟩

