/-! READING: the model takes a token, further -/
theorem go_cls_b {T : Int → Int} {c pl : Int} (h : gr_cls T c pl) : 0 < gh_ishl_f 1 (T (pl + 3) - 97 + 1) - gh_ishl_f 1 (T (pl + 1) - 97) ∧ gh_ishl_f 1 (T (pl + 3) - 97 + 1) - gh_ishl_f 1 (T (pl + 1) - 97) ≤ 67108864 := by
  obtain ⟨w1, w2, w3, w4, w5⟩ := h
  unfold gr_in at w1 w3
  rw [gb_one (by omega) (by omega), gb_one (by omega) (by omega)]
  have a : 2 ^ (T (pl + 1) - 97).toNat < 2 ^ (T (pl + 3) - 97 + 1).toNat := Nat.pow_lt_pow_right (by decide) (by omega)
  have b : 2 ^ (T (pl + 3) - 97 + 1).toNat ≤ 2 ^ 26 := Nat.pow_le_pow_right (by decide) (by omega)
  generalize 2 ^ (T (pl + 1) - 97).toNat = u at *
  generalize 2 ^ (T (pl + 3) - 97 + 1).toNat = v at *
  have b' : v ≤ 67108864 := b
  omega
theorem go_mhead {T : Int → Int} {c pos pl kd si e nt md nr br ns : Int} {ta ow mb sa : Int → Int} {rl : Int → List Int} {sk : go_K} {m : gh_M} {Q : Int → gh_M → Prop} (mt : gr_mt T c m) (iv : go_iv T c pos ((0, nt, md, nr, br, ns), (ta, ow, rl, mb, sa), sk)) (rm : go_rm ((0, nt, md, nr, br, ns), (ta, ow, rl, mb, sa), sk) m) (pl0 : 0 ≤ pl) (tk : gr_tok T c pl kd si e) (k0 : kd ≠ 0) (e5 : m 63 5 = kd) (e6 : m 63 6 = pl) (H0 : (go_act T c ((0, nt, md, nr, br, ns), (ta, ow, rl, mb, sa), sk) pl kd si e).1 ≠ 0 → Q (go_act T c ((0, nt, md, nr, br, ns), (ta, ow, rl, mb, sa), sk) pl kd si e).1 m) (H1 : (go_act T c ((0, nt, md, nr, br, ns), (ta, ow, rl, mb, sa), sk) pl kd si e).1 = 0 → ∀ m2, go_fr m m2 → go_rm (go_act T c ((0, nt, md, nr, br, ns), (ta, ow, rl, mb, sa), sk) pl kd si e).2 m2 → Q 0 m2) : w_Model_takesHead m Q := by
  obtain ⟨i1, i2, i3, i4, i5, i6, i7, ⟨i8, i9, i10, i11, i12⟩, i13, i14, i15⟩ := iv
  obtain ⟨⟨r1, r2, r3, r4, r5⟩, r6, r7, r8, r9, r10⟩ := rm
  unfold go_act at H0 H1
  (try dsimp only at i1 i2 i3 i4 i5 i6 i7 i8 i9 i10 i11 i12 i13 i14 i15 r1 r2 r3 r4 r5 r6 r7 r8 r9 r10 H0 H1)
  have i2a : 0 ≤ nt ∧ nt ≤ 8 := i2.1
  rw [if_neg k0, if_pos rfl] at H0 H1
  unfold w_Model_takesHead
  rw [e5, e6, r1, r2]
  refine ⟨fun k2 => ?_, fun k2 => ?_⟩
  · rw [if_pos k2] at H0 H1
    rw [k2] at tk
    obtain ⟨d, hd, he⟩ := gr_tok_nm pl0 tk
    refine gr_toldOf (nt := nt) (ta := ta) mt i2 r1 r6 hd (fun x hx => ⟨fun z => ?_, fun _ => ?_⟩) (fun no => ⟨fun _ => ?_, fun z => absurd rfl z⟩)
    · have := hx.1
      omega
    · rw [if_pos ⟨x, hx⟩] at H0
      exact H0 (fun z => go_no z (by decide))
    · rw [if_neg no] at H0 H1
      refine ⟨by omega, fun n8 => ?_, fun n8 => ⟨by omega, by omega, by omega, ?_⟩⟩
      · rw [if_pos n8] at H0
        exact H0 (fun z => go_no z (by decide))
      · rw [if_neg n8] at H1
        refine H1 rfl _ ⟨gx_u (gx_u gx_rf (by decide)) (by decide), fun y hy => by rw [gh_u_i (by omega), gh_u_a (by decide)]⟩ ⟨⟨gh_u_s _ _ _ _, by rw [gh_u_i (by decide), gh_u_a (by decide)]; exact r2, by rw [gh_u_i (by decide), gh_u_a (by decide)]; exact r3, by rw [gh_u_i (by decide), gh_u_a (by decide)]; exact r4, by rw [gh_u_i (by decide), gh_u_a (by decide)]; exact r5⟩, fun x x0 x1 => ?_, fun r r0 r1' => ?_, fun b b0 b1 no' => ?_, fun x x0 x1 => ?_, fun z => absurd (show (1 : Int) = 2 from z) (by decide)⟩
        · have x1' : x < nt + 1 := x1
          (try dsimp only)
          rw [gh_u_a (by decide)]
          by_cases u : x = nt
          · rw [u, gh_u_s, go_upd_s]
          · rw [gh_u_i u, go_upd_i u]
            exact r6 x x0 (by omega)
        · have e68 : gh_u (gh_u m 65 nt pl) 63 8 (nt + 1) 68 = m 68 := funext fun x => by rw [gh_u_a (by decide), gh_u_a (by decide)]
          rw [gh_u_a (by decide), gh_u_a (by decide), gh_u_a (by decide), gh_u_a (by decide), e68]
          exact r7 r r0 r1'
        · rw [gh_u_a (by decide), gh_u_a (by decide)]
          exact r8 b b0 b1 no'
        · rw [gh_u_a (by decide), gh_u_a (by decide)]
          exact r9 x x0 x1
  · rw [if_neg k2] at H0
    exact H0 (fun z => go_no z (by decide))
theorem go_mopen {T : Int → Int} {c pos nt md nr br ns b a : Int} {ta ow mb sa : Int → Int} {rl : Int → List Int} {ps : List Int} {k2 : go_K} {m : gh_M} {Q : Int → gh_M → Prop} (iv : go_iv T c pos ((2, nt, md, nr, br, ns), (ta, ow, rl, mb, sa), (b, ps, a) :: k2)) (rm : go_rm ((2, nt, md, nr, br, ns), (ta, ow, rl, mb, sa), (b, ps, a) :: k2) m) (H0 : k2.length = 3 → Q 3 m) (H1 : k2.length ≠ 3 → ∀ m2, go_fr m m2 → go_rm ((2, nt, md, nr, br + 1, ns), (ta, ow, rl, mb, sa), (br, [], 0) :: (b, ps, a) :: k2) m2 → Q 0 m2) : w_Model_opens m Q := by
  obtain ⟨i1, i2, i3, i4, i5, i6, i7, ⟨i8, i9, i10, i11, i12⟩, i13, i14, i15⟩ := iv
  obtain ⟨⟨r1, r2, r3, r4, r5⟩, r6, r7, r8, r9, r10⟩ := rm
  (try dsimp only at i1 i2 i3 i4 i5 i6 i7 i8 i9 i10 i11 i12 i13 i14 i15 r1 r2 r3 r4 r5 r6 r7 r8 r9 r10)
  obtain ⟨d, sk⟩ := r10 rfl
  have i2a : 0 ≤ nt ∧ nt ≤ 8 := i2.1
  have se := go_se_big (by omega) i9
  have lc := go_len_cons (x := (b, ps, a)) (k := k2)
  have ed : m 63 15 = k2.length := by omega
  unfold w_Model_opens
  rw [ed, r4]
  refine ⟨fun z => H0 (by omega), fun z => ⟨by omega, by omega, by omega, by omega, by omega, by omega, by omega, by omega, ?_⟩⟩
  obtain ⟨m3, hm3⟩ : ∃ m3, m3 = gh_u (gh_u (gh_u (gh_u (gh_u m 63 15 ((k2.length : Int) + 1)) 69 ((k2.length : Int) + 1) br) 63 16 (br + 1)) 71 ((k2.length : Int) + 1) 0) 73 ((k2.length : Int) + 1) 0 := ⟨_, rfl⟩
  rw [← hm3]
  have x3 : gx [63, 69, 71, 73] m m3 := by
    rw [hm3]
    exact gx_u (gx_u (gx_u (gx_u (gx_u gx_rf (by decide)) (by decide)) (by decide)) (by decide)) (by decide)
  have o63 : ∀ y, y ≠ 15 → y ≠ 16 → m3 63 y = m 63 y := fun y yn yn2 => by
    rw [hm3, gh_u_a (by decide), gh_u_a (by decide), gh_u_i yn2, gh_u_a (by decide), gh_u_i yn]
  have s15 : m3 63 15 = (k2.length : Int) + 1 := by
    rw [hm3, gh_u_a (by decide), gh_u_a (by decide), gh_u_i (by decide), gh_u_a (by decide), gh_u_s]
  have s16 : m3 63 16 = br + 1 := by
    rw [hm3, gh_u_a (by decide), gh_u_a (by decide), gh_u_s]
  have o69 : ∀ x, x ≠ (k2.length : Int) + 1 → m3 69 x = m 69 x ∧ m3 71 x = m 71 x ∧ m3 73 x = m 73 x := fun x xn => by
    rw [hm3]
    refine ⟨?_, ?_, ?_⟩
    · rw [gh_u_a (by decide), gh_u_a (by decide), gh_u_a (by decide), gh_u_i xn, gh_u_a (by decide)]
    · rw [gh_u_a (by decide), gh_u_i xn, gh_u_a (by decide), gh_u_a (by decide), gh_u_a (by decide)]
    · rw [gh_u_i xn, gh_u_a (by decide), gh_u_a (by decide), gh_u_a (by decide), gh_u_a (by decide)]
  have s69 : m3 69 ((k2.length : Int) + 1) = br ∧ m3 71 ((k2.length : Int) + 1) = 0 ∧ m3 73 ((k2.length : Int) + 1) = 0 := by
    rw [hm3]
    refine ⟨?_, ?_, ?_⟩
    · rw [gh_u_a (by decide), gh_u_a (by decide), gh_u_a (by decide), gh_u_s]
    · rw [gh_u_a (by decide), gh_u_s]
    · rw [gh_u_s]
  clear hm3
  have lc2 := go_len_cons (x := (br, ([] : List Int), (0 : Int))) (k := (b, ps, a) :: k2)
  have e : (((b, ps, a) :: k2 : go_K).length : Int) = (k2.length : Int) + 1 := lc
  refine H1 (by omega) m3 ⟨gx_sub x3 (by decide), fun y hy => o63 y (by omega) (by omega)⟩ ⟨⟨by rw [o63 8 (by decide) (by decide)]; exact r1, by rw [o63 9 (by decide) (by decide)]; exact r2, by rw [o63 11 (by decide) (by decide)]; exact r3, s16, by rw [o63 22 (by decide) (by decide)]; exact r5⟩, fun x x0 x1 => by rw [x3 65 (by decide)]; exact r6 x x0 x1, fun r r0 r1' => by rw [x3 66 (by decide), x3 67 (by decide), x3 68 (by decide)]; exact r7 r r0 r1', fun b' b0 b1 no => ?_, fun x x0 x1 => by rw [x3 74 (by decide)]; exact r9 x x0 x1, fun _ => ⟨?_, ?_, trivial, ?_, fun _ => ?_, go_skm_cg _ se (fun x x0 x1 => o69 x (by omega)) (fun x x0 x1 => by rw [x3 72 (by decide)]) sk⟩⟩
  · have b1' : b' < br + 1 := b1
    rw [x3 70 (by decide)]
    by_cases u : b' = br
    · exact absurd (Or.inl ⟨u.symm, rfl⟩) (no (((b, ps, a) :: k2 : go_K).length : Int))
    · exact r8 b' b0 (by omega) (fun l z => no l (Or.inr z))
  · rw [s15]
    (try dsimp only)
    omega
  · rw [e]
    exact s69.2.1
  · rw [e]
    exact s69.2.2
  · rw [e]
    exact s69.1
theorem go_mclose {T : Int → Int} {c pos nt md nr br ns b a b2 a2 : Int} {ta ow mb sa : Int → Int} {rl : Int → List Int} {ps ps2 : List Int} {k3 : go_K} {m : gh_M} {Q : Int → gh_M → Prop} (iv : go_iv T c pos ((2, nt, md, nr, br, ns), (ta, ow, rl, mb, sa), (b, ps, a) :: (b2, ps2, a2) :: k3)) (rm : go_rm ((2, nt, md, nr, br, ns), (ta, ow, rl, mb, sa), (b, ps, a) :: (b2, ps2, a2) :: k3) m) (H0 : (nr = 20 ∨ nt + md = 8 ∨ ps2.length = 4) → Q 3 m) (H1 : ¬ (nr = 20 ∨ nt + md = 8 ∨ ps2.length = 4) → ∀ m2, go_fr m m2 → go_rm ((2, nt, md + 1, nr + 1, br, ns), (ta, gm_upd ow nr (100 + b), go_upl rl nr ps, gm_upd mb b md, sa), (b2, (-2000 - md) :: ps2, 1) :: k3) m2 → Q 0 m2) : w_Model_closes m Q := by
  have iv0 := iv
  have rm0 := rm
  obtain ⟨i1, i2, i3, i4, i5, i6, i7, ⟨i8, i9, i10, i11, i12⟩, i13, i14, i15⟩ := iv
  obtain ⟨⟨r1, r2, r3, r4, r5⟩, r6, r7, r8, r9, r10⟩ := rm
  (try dsimp only at i1 i2 i3 i4 i5 i6 i7 i8 i9 i10 i11 i12 i13 i14 i15 r1 r2 r3 r4 r5 r6 r7 r8 r9 r10)
  obtain ⟨d, t1, t2, t3, t4, u1, u2, u3, u4, u5⟩ := r10 rfl
  have i2a : 0 ≤ nt ∧ nt ≤ 8 := i2.1
  obtain ⟨⟨q1, q2, q3, q4, q5⟩, ⟨g1, g2, g3, g4, g5⟩, q6⟩ := i9
  have se := go_se_big (by omega) q6
  obtain ⟨d1, d2, d3, h1, h2, h3, h4⟩ := i10
  have lc := go_len_cons (x := (b, ps, a)) (k := (b2, ps2, a2) :: k3)
  have lc2 := go_len_cons (x := (b2, ps2, a2)) (k := k3)
  have lc3 := go_len_cons (x := (b, ([] : List Int), (0 : Int))) (k := (b2, ps2, a2) :: k3)
  have lc4 := go_len_cons (x := (b2, (-2000 - md) :: ps2, (1 : Int))) (k := k3)
  have b0 : 0 ≤ b := d3.mpr (List.cons_ne_nil _ _)
  have ed : m 63 15 = (k3.length : Int) + 1 := by omega
  have ed1 : m 63 15 - 1 = k3.length := by omega
  have e69 : m 69 ((k3.length : Int) + 1) = b := by
    rw [← lc2]
    exact t4 (List.cons_ne_nil _ _)
  unfold w_Model_closes
  rw [ed1, u1, r1, r2, r3, ed, e69]
  refine ⟨fun z => by omega, fun _ => ⟨fun _ => ⟨by omega, fun _ => by omega⟩, fun z => H0 (by omega), fun z => ⟨by omega, by omega, b0, by omega, ?_⟩⟩⟩
  have H1 := H1 (by omega)
  clear H0
  obtain ⟨m1, hm1⟩ : ∃ m1, m1 = gh_u m 70 b md := ⟨_, rfl⟩
  rw [← hm1]
  have x1 : gx [70] m m1 := by
    rw [hm1]
    exact gx_one _ _ _ _
  have o70 : ∀ x, x ≠ b → m1 70 x = m 70 x := fun x xn => by
    rw [hm1, gh_u_i xn]
  have s70 : m1 70 b = md := by
    rw [hm1, gh_u_s]
  clear hm1
  have f1 : go_fr m m1 := ⟨gx_sub x1 (by decide), fun y _ => by rw [x1 63 (by decide)]⟩
  have rm1 : go_rm ((2, nt, md, nr, br, ns), (ta, ow, rl, mb, sa), (b, ps, a) :: (b2, ps2, a2) :: k3) m1 := by
    obtain ⟨w1, w2, w3, w4, w5, w6⟩ := rm0
    refine ⟨by rw [x1 63 (by decide)]; exact w1, by rw [x1 65 (by decide)]; exact w2, by rw [x1 66 (by decide), x1 67 (by decide), x1 68 (by decide)]; exact w3, fun b' c0 c1 no => ?_, by rw [x1 74 (by decide)]; exact w5, fun z => ⟨by rw [x1 63 (by decide)]; exact (w6 z).1, ?_⟩⟩
    · by_cases u : b' = b
      · exact absurd (Or.inl ⟨u.symm, rfl⟩) (no (((b2, ps2, a2) :: k3 : go_K).length : Int))
      · rw [o70 b' u]
        exact w4 b' c0 c1 no
    · refine go_skm_cg _ (go_se_big (by omega) ⟨⟨q1, q2, q3, q4, q5⟩, ⟨g1, g2, g3, g4, g5⟩, q6⟩) (fun x x0 x1' => ⟨by rw [x1 69 (by decide)], by rw [x1 71 (by decide)], by rw [x1 73 (by decide)]⟩) (fun x x0 x1' => by rw [x1 72 (by decide)]) (w6 z).2
  refine go_mend ⟨pos, iv0⟩ rm1 rfl (by omega) (fun m2 f2 e70 w => ?_)
  rw [if_neg (List.cons_ne_nil _ _)] at w
  obtain ⟨⟨w1, w2, w3, w4, w5⟩, w6, w7, w8, w9, w10⟩ := w
  (try dsimp only at w1 w2 w3 w4 w5 w6 w7 w8 w9 w10)
  obtain ⟨wd, ww⟩ := w10 rfl
  have wd1 : m2 63 15 = (k3.length : Int) + 1 := by omega
  have wd2 : (k3.length : Int) + 1 - 1 = k3.length := by omega
  rw [wd1, w2, wd2]
  obtain ⟨m3, hm3⟩ : ∃ m3, m3 = gh_u m2 63 15 (k3.length : Int) := ⟨_, rfl⟩
  rw [← hm3]
  have x3 : gx [63] m2 m3 := by
    rw [hm3]
    exact gx_one _ _ _ _
  have o63 : ∀ y, y ≠ 15 → m3 63 y = m2 63 y := fun y yn => by
    rw [hm3, gh_u_i yn]
  have s15 : m3 63 15 = k3.length := by
    rw [hm3, gh_u_s]
  clear hm3
  have sk3 : go_skm m3 ((b2, ps2, a2) :: k3) := by
    obtain ⟨_, _, _, _, ww5⟩ := ww
    exact go_skm_cg _ ⟨⟨g1, fun p hp => go_pv_up (by omega) (g2 p hp), g3, g4, g5⟩, se⟩ (fun x x0 x1' => ⟨by rw [x3 69 (by decide)], by rw [x3 71 (by decide)], by rw [x3 73 (by decide)]⟩) (fun x x0 x1' => by rw [x3 72 (by decide)]) ww5
  refine ⟨by omega, by omega, go_madd (by omega) se (by omega) s15 sk3 (fun m4 x4 s4 => ?_)⟩
  rw [x4 63 (by decide), s15, o63 9 (by decide), w2]
  refine ⟨by omega, by omega, by omega, ?_⟩
  obtain ⟨m5, hm5⟩ : ∃ m5, m5 = gh_u (gh_u m4 63 9 (md + 1)) 73 (k3.length : Int) 1 := ⟨_, rfl⟩
  rw [← hm5]
  have x5 : gx [63, 73] m4 m5 := by
    rw [hm5]
    exact gx_u (gx_u gx_rf (by decide)) (by decide)
  have o635 : ∀ y, y ≠ 9 → m5 63 y = m3 63 y := fun y yn => by
    rw [hm5, gh_u_a (by decide), gh_u_i yn, x4 63 (by decide)]
  have s9 : m5 63 9 = md + 1 := by
    rw [hm5, gh_u_a (by decide), gh_u_s]
  have o73 : ∀ x, x ≠ (k3.length : Int) → m5 73 x = m4 73 x := fun x xn => by
    rw [hm5, gh_u_i xn, gh_u_a (by decide)]
  have s73 : m5 73 k3.length = 1 := by
    rw [hm5, gh_u_s]
  clear hm5
  have x25 : gx [63, 71, 72, 73] m2 m5 := gx_t (gx_sub x3 (by decide)) (gx_t (gx_sub x4 (by decide)) (gx_sub x5 (by decide)))
  have f25 : go_fr m2 m5 := ⟨gx_sub x25 (by decide), fun y hy => by rw [o635 y (by omega), o63 y (by omega)]⟩
  obtain ⟨v1, v2, v3, v4, v5⟩ := s4
  refine H1 m5 (go_fr_t f1 (go_fr_t f2 f25)) ⟨⟨by rw [o635 8 (by decide), o63 8 (by decide)]; exact w1, s9, by rw [o635 11 (by decide), o63 11 (by decide)]; exact w3, by rw [o635 16 (by decide), o63 16 (by decide)]; exact w4, by rw [o635 22 (by decide), o63 22 (by decide)]; exact w5⟩, by rw [x25 65 (by decide)]; exact w6, by rw [x25 66 (by decide), x25 67 (by decide), x25 68 (by decide)]; exact w7, fun b' c0 c1 no => ?_, by rw [x25 74 (by decide)]; exact w9, fun _ => ⟨?_, by rw [x5 71 (by decide)]; exact v1, by rw [x5 72 (by decide)]; exact v2, s73, fun z => by rw [x5 69 (by decide)]; exact v4 z, go_skm_cg k3 se (fun x x0 x1' => ⟨by rw [x5 69 (by decide)], by rw [x5 71 (by decide)], o73 x (by omega)⟩) (fun x x0 x1' => by rw [x5 72 (by decide)]) v5⟩⟩
  · rw [x25 70 (by decide)]
    show m2 70 b' = gm_upd mb b md b'
    by_cases u : b' = b
    · rw [u, go_upd_s, e70, s70]
    · rw [go_upd_i u]
      refine w8 b' c0 c1 (fun l z => ?_)
      rcases z with z | z
      · exact u z.1.symm
      · exact no l z
  · rw [o635 15 (by decide), s15]
    (try dsimp only)
    omega
theorem go_msets {T : Int → Int} {c pos pl kd si e nt md nr br ns b a : Int} {ta ow mb sa : Int → Int} {rl : Int → List Int} {ps : List Int} {k2 : go_K} {m : gh_M} {Q : Int → gh_M → Prop} (mt : gr_mt T c m) (iv : go_iv T c pos ((2, nt, md, nr, br, ns), (ta, ow, rl, mb, sa), (b, ps, a) :: k2)) (rm : go_rm ((2, nt, md, nr, br, ns), (ta, ow, rl, mb, sa), (b, ps, a) :: k2) m) (p0 : 0 ≤ pos) (pp : pos ≤ pl) (plc : pl < c) (tk : gr_tok T c pl kd si e) (e5 : m 63 5 = kd) (e6 : m 63 6 = pl) (w : kd = 2 ∨ kd = 3 ∨ kd = 4) (H0 : 4 < (ps.length : Int) + go_w kd pl e → Q 3 m) (H1 : (ps.length : Int) + go_w kd pl e ≤ 4 → ∀ m2, go_fr m m2 → go_rm ((2, nt, md, nr, br, if kd = 2 then ns + 1 else ns), (ta, ow, rl, mb, if kd = 2 then gm_upd sa ns pl else sa), (b, go_new T kd pl (go_w kd pl e) ++ ps, go_w kd pl e) :: k2) m2 → Q 0 m2) : w_Model_takesSets m Q := by
  obtain ⟨i1, i2, i3, i4, i5, i6, i7, ⟨i8, i9, i10, i11, i12⟩, i13, i14, i15⟩ := iv
  obtain ⟨⟨r1, r2, r3, r4, r5⟩, r6, r7, r8, r9, r10⟩ := rm
  (try dsimp only at i1 i2 i3 i4 i5 i6 i7 i8 i9 i10 i11 i12 i13 i14 i15 r1 r2 r3 r4 r5 r6 r7 r8 r9 r10)
  obtain ⟨d, sk⟩ := r10 rfl
  have i2a : 0 ≤ nt ∧ nt ≤ 8 := i2.1
  have c240 := mt.2.2.1
  obtain ⟨⟨q1, q2, q3, q4, q5⟩, q6⟩ := i9
  have se := go_se_big (by omega) q6
  have lc := go_len_cons (x := (b, ps, a)) (k := k2)
  have ed : m 63 15 = k2.length := by omega
  have e71 := sk.1
  obtain ⟨n1, n2, n3⟩ := go_new_v (md := md) (by omega) tk w
  unfold w_Model_takesSets
  refine ⟨fun y0 => y0 = go_w kd pl e, fun y0 hy => ?_, fun z => ?_, fun z => ?_⟩
  · rw [hy, ed, e71, e5]
    clear hy y0
    refine ⟨by omega, by omega, by omega, fun w4 => ?_, fun w4 => H0 (by omega)⟩
    have H1 := H1 w4
    clear H0
    obtain ⟨ns2, hns2⟩ : ∃ ns2, ns2 = if kd = 2 then ns + 1 else ns := ⟨_, rfl⟩
    obtain ⟨sa2, hsa2⟩ : ∃ sa2, sa2 = if kd = 2 then gm_upd sa ns pl else sa := ⟨_, rfl⟩
    rw [← hns2, ← hsa2] at H1
    refine ⟨fun m' => gx [63, 71, 72, 74] m m' ∧ (∀ y, y ≠ 22 → m' 63 y = m 63 y) ∧ go_skm m' ((b, go_new T kd pl (go_w kd pl e) ++ ps, a) :: k2) ∧ m' 63 22 = ns2 ∧ ∀ x, 0 ≤ x → x < ns2 → m' 74 x = sa2 x, ?_, fun k => ?_, fun k => ⟨fun k4 => ?_, fun k4 => ?_⟩⟩
    · rintro m' ⟨x', o', ⟨v1, v2, v3, v4, v5⟩, s22, s74⟩
      rw [o' 15 (by decide), ed]
      refine ⟨by omega, by omega, ?_⟩
      obtain ⟨m3, hm3⟩ : ∃ m3, m3 = gh_u m' 73 (k2.length : Int) (go_w kd pl e) := ⟨_, rfl⟩
      rw [← hm3]
      have x3 : gx [73] m' m3 := by
        rw [hm3]
        exact gx_one _ _ _ _
      have o73 : ∀ x, x ≠ (k2.length : Int) → m3 73 x = m' 73 x := fun x xn => by
        rw [hm3, gh_u_i xn]
      have s73 : m3 73 k2.length = go_w kd pl e := by
        rw [hm3, gh_u_s]
      clear hm3
      have x4 : gx [63, 71, 72, 73, 74] m m3 := gx_t (gx_sub x' (by decide)) (gx_sub x3 (by decide))
      have o63 : ∀ y, y ≠ 22 → m3 63 y = m 63 y := fun y yn => by rw [x3 63 (by decide), o' y yn]
      refine H1 m3 ⟨gx_sub x4 (by decide), fun y hy => o63 y (by omega)⟩ ⟨⟨by rw [o63 8 (by decide)]; exact r1, by rw [o63 9 (by decide)]; exact r2, by rw [o63 11 (by decide)]; exact r3, by rw [o63 16 (by decide)]; exact r4, by rw [x3 63 (by decide)]; exact s22⟩, by rw [x4 65 (by decide)]; exact r6, by rw [x4 66 (by decide), x4 67 (by decide), x4 68 (by decide)]; exact r7, fun b' b0 b1 no => by rw [x4 70 (by decide)]; exact r8 b' b0 b1 no, by rw [x3 74 (by decide)]; exact s74, fun _ => ⟨?_, by rw [x3 71 (by decide)]; exact v1, by rw [x3 72 (by decide)]; exact v2, s73, fun z => by rw [x3 69 (by decide)]; exact v4 z, go_skm_cg k2 se (fun x x0 x1' => ⟨by rw [x3 69 (by decide)], by rw [x3 71 (by decide)], o73 x (by omega)⟩) (fun x x0 x1' => by rw [x3 72 (by decide)]) v5⟩⟩
      rw [o63 15 (by decide), ed]
      have := go_len_cons (x := (b, go_new T kd pl (go_w kd pl e) ++ ps, go_w kd pl e)) (k := k2)
      (try dsimp only)
      omega
    · rw [k] at tk
      have w1 : go_w kd pl e = 1 := by
        rw [k]
        rfl
      rw [if_pos k] at hns2 hsa2
      rw [r5, e6]
      obtain ⟨m1, hm1⟩ : ∃ m1, m1 = gh_u (gh_u m 74 ns pl) 63 22 (ns + 1) := ⟨_, rfl⟩
      rw [← hm1]
      have x1 : gx [63, 74] m m1 := by
        rw [hm1]
        exact gx_u (gx_u gx_rf (by decide)) (by decide)
      have o63 : ∀ y, y ≠ 22 → m1 63 y = m 63 y := fun y yn => by
        rw [hm1, gh_u_i yn, gh_u_a (by decide)]
      have s22 : m1 63 22 = ns + 1 := by
        rw [hm1, gh_u_s]
      have o74 : ∀ x, x ≠ ns → m1 74 x = m 74 x := fun x xn => by
        rw [hm1, gh_u_a (by decide), gh_u_i xn]
      have s74 : m1 74 ns = pl := by
        rw [hm1, gh_u_a (by decide), gh_u_s]
      clear hm1
      have sk1 : go_skm m1 ((b, ps, a) :: k2) := go_skm_cg _ ⟨⟨q1, fun p hp => go_pv_up (by omega) (q2 p hp), q3, q4, q5⟩, se⟩ (fun x x0 x1' => ⟨by rw [x1 69 (by decide)], by rw [x1 71 (by decide)], by rw [x1 73 (by decide)]⟩) (fun x x0 x1' => by rw [x1 72 (by decide)]) sk
      refine ⟨by omega, by omega, by omega, by omega, go_madd (by omega) se (by omega) (by rw [o63 15 (by decide)]; exact ed) sk1 (fun m2 x2 s2 => ⟨gx_t (gx_sub x1 (by decide)) (gx_sub x2 (by decide)), fun y yn => by rw [x2 63 (by decide), o63 y yn], ?_, by rw [x2 63 (by decide), hns2]; exact s22, fun x x0 x1' => ?_⟩)⟩
      · unfold go_new
        rw [if_pos k]
        exact s2
      · rw [x2 74 (by decide), hsa2]
        by_cases u : x = ns
        · rw [u, go_upd_s, s74]
        · rw [go_upd_i u, o74 x u]
          exact r9 x x0 (by omega)
    · rw [k4] at tk
      have w1 : go_w kd pl e = 1 := by
        rw [k4]
        rfl
      rw [if_neg k] at hns2 hsa2
      have cls := gr_tok_cls tk
      have cb := go_cls_b cls
      obtain ⟨c1, c2, c3, c4, c5⟩ := cls
      unfold gr_in at c1 c3
      have t1 := (mt.2.2.2 (pl + 1) c1.1 c1.2.1).1
      have t3 := (mt.2.2.2 (pl + 3) c3.1 c3.2.1).1
      rw [e6, t1, t3]
      refine ⟨by omega, by omega, by omega, by omega, fun v2 hv2 => ?_⟩
      rw [hv2]
      clear hv2 v2
      refine ⟨by omega, by omega, by omega, by omega, fun v3 hv3 => ?_⟩
      rw [hv3]
      clear hv3 v3
      refine ⟨by omega, by omega, go_madd (by omega) se (by omega) ed sk (fun m2 x2 s2 => ⟨gx_sub x2 (by decide), fun y yn => by rw [x2 63 (by decide)], ?_, by rw [x2 63 (by decide), hns2]; exact r5, fun x x0 x1' => by rw [x2 74 (by decide), hsa2]; exact r9 x x0 (by omega)⟩)⟩
      unfold go_new
      rw [if_neg k, if_pos k4]
      exact s2
    · have k3 : kd = 3 := by omega
      rw [k3] at tk
      rw [if_neg k] at hns2 hsa2
      obtain ⟨dd, d1, d2, d3, d4⟩ := gr_tok_quo tk
      have ew : go_w kd pl e = dd := by
        unfold go_w
        rw [if_pos k3]
        omega
      have en : go_new T kd pl (go_w kd pl e) = go_ql T pl dd.toNat := by
        unfold go_new
        rw [if_neg (by omega), if_neg (by omega), ew]
      rw [en]
      rw [ew] at w4
      rw [ew]
      refine ⟨fun v m' => 1 ≤ v ∧ v ≤ dd + 1 ∧ gx [71, 72] m m' ∧ go_skm m' ((b, go_ql T pl (v - 1).toNat ++ ps, a) :: k2), fun v _ => (10 - v).toNat, ⟨Int.le_refl _, by omega, gx_rf, sk⟩, ?_⟩
      rintro v m' ⟨v0, v1, x', s'⟩
      unfold f_Model_takesSets_142
      rw [x' 63 (by decide), x' 64 (by decide), e6]
      refine ⟨fun le => ?_, fun gt => ?_⟩
      · have in1 := d1.2.1 (v - 1) (by omega) (by omega)
        have e1 : pl + 1 + (v - 1) = pl + v := by omega
        rw [e1] at in1
        unfold gr_in at in1
        rw [(mt.2.2.2 (pl + v) in1.1 in1.2.1).1]
        have lq : ((go_ql T pl (v - 1).toNat ++ ps).length : Int) = v - 1 + ps.length := by
          rw [List.length_append, go_ql_len]
          omega
        refine ⟨by omega, by omega, by omega, by omega, go_madd (by omega) se (by omega) (by rw [x' 63 (by decide)]; exact ed) s' (fun m2 x2 s2 => ⟨by omega, ⟨by omega, by omega, gx_t x' x2, ?_⟩, by (try dsimp only); omega⟩)⟩
        have e2 : (v + 1 - 1).toNat = (v - 1).toNat + 1 := by omega
        have e3 : pl + v = pl + (((v - 1).toNat : Int) + 1) := by omega
        rw [e3] at s2
        rw [e2]
        exact s2
      · have ev : v - 1 = dd := by omega
        rw [ev] at s'
        exact ⟨gx_sub x' (by decide), fun y yn => by rw [x' 63 (by decide)], s', by rw [x' 63 (by decide), hns2]; exact r5, fun x x0 x1' => by rw [x' 74 (by decide), hsa2]; exact r9 x x0 (by omega)⟩
  · have k3 : kd = 3 := by omega
    rw [k3] at tk
    obtain ⟨dd, d1, d2, d3, d4⟩ := gr_tok_quo tk
    have ew : go_w kd pl e = dd := by
      unfold go_w
      rw [if_pos k3]
      omega
    rw [e6]
    exact ⟨by omega, gr_smallsFrom mt (by omega) (by omega) d1 ew.symm⟩
  · unfold go_w
    rw [if_neg (by omega)]
theorem go_mrep {T : Int → Int} {c pos nt md nr br ns b a si : Int} {ta ow mb sa : Int → Int} {rl : Int → List Int} {ps : List Int} {k2 : go_K} {m : gh_M} {Q : Int → gh_M → Prop} (iv : go_iv T c pos ((2, nt, md, nr, br, ns), (ta, ow, rl, mb, sa), (b, ps, a) :: k2)) (rm : go_rm ((2, nt, md, nr, br, ns), (ta, ow, rl, mb, sa), (b, ps, a) :: k2) m) (e7 : m 63 7 = si) (hs : si = 63 ∨ si = 42 ∨ si = 43) (H0 : a = 0 → Q 2 m) (H3 : a ≠ 0 → (nt + md = 8 ∨ 20 < nr + 2) → Q 3 m) (H1 : a ≠ 0 → ¬ (nt + md = 8 ∨ 20 < nr + 2) → ∀ m2, go_fr m m2 → go_rm ((2, nt, md + 1, nr + 2, br, ns), (ta, gm_upd (gm_upd ow nr (200 + md)) (nr + 1) (200 + md), go_upl (go_upl rl nr (if si = 42 then [] else ps.take a.toNat)) (nr + 1) (if si = 63 then [] else ps.take a.toNat ++ [-2000 - md]), mb, sa), (b, (-2000 - md) :: ps.drop a.toNat, 0) :: k2) m2 → Q 0 m2) : w_Model_repeats m Q := by
  obtain ⟨i1, i2, i3, i4, i5, i6, i7, ⟨i8, i9, i10, i11, i12⟩, i13, i14, i15⟩ := iv
  obtain ⟨⟨r1, r2, r3, r4, r5⟩, r6, r7, r8, r9, r10⟩ := rm
  (try dsimp only at i1 i2 i3 i4 i5 i6 i7 i8 i9 i10 i11 i12 i13 i14 i15 r1 r2 r3 r4 r5 r6 r7 r8 r9 r10)
  obtain ⟨d, t1, t2, t3, t4, t5⟩ := r10 rfl
  have i2a : 0 ≤ nt ∧ nt ≤ 8 := i2.1
  obtain ⟨⟨q1, q2, q3, q4, q5⟩, q6⟩ := i9
  have se := go_se_big (by omega) q6
  have lc := go_len_cons (x := (b, ps, a)) (k := k2)
  have ed : m 63 15 = k2.length := by omega
  unfold w_Model_repeats
  rw [ed, t3, r1, r2, r3, e7]
  refine ⟨by omega, by omega, H0, fun a0 => ⟨by omega, fun _ => by omega, fun z => ⟨by omega, fun v1 hv1 => ?_⟩, fun z => H3 a0 (by omega)⟩⟩
  rw [hv1]
  clear hv1 v1
  have H1 := H1 a0 (by omega)
  clear H0 H3
  obtain ⟨La, hLa⟩ : ∃ La : List Int, La = if si = 42 then [] else ps.take a.toNat := ⟨_, rfl⟩
  obtain ⟨Lb, hLb⟩ : ∃ Lb : List Int, Lb = if si = 63 then [] else ps.take a.toNat ++ [-2000 - md] := ⟨_, rfl⟩
  rw [← hLa, ← hLb] at H1
  have lt : ((ps.take a.toNat).length : Int) = a := by
    rw [List.length_take]
    omega
  have ld : ((ps.drop a.toNat).length : Int) = ps.length - a := by
    rw [List.length_drop]
    omega
  have lLa : La.length ≤ 4 := by
    rw [hLa]
    by_cases u : si = 42
    · rw [if_pos u]
      decide
    · rw [if_neg u]
      omega
  refine ⟨fun m' => gx [63, 66, 67, 68] m m' ∧ (∀ y, y ≠ 11 → m' 63 y = m 63 y) ∧ m' 63 11 = nr + 2 ∧ (∀ x, x ≠ nr → x ≠ nr + 1 → m' 66 x = m 66 x ∧ m' 67 x = m 67 x) ∧ (m' 66 nr = 200 + md ∧ m' 66 (nr + 1) = 200 + md ∧ m' 67 nr = La.length ∧ m' 67 (nr + 1) = Lb.length) ∧ (∀ x, x < nr * 4 → m' 68 x = m 68 x) ∧ go_rd go_eq (m' 68) (nr * 4) La ∧ go_rd go_eq (m' 68) ((nr + 1) * 4) Lb, ?_, fun u => ?_, fun u => ?_⟩
  · rintro m' ⟨x', o', s11, o66, ⟨s66, s66', s67, s67'⟩, o68, rda, rdb⟩
    rw [o' 15 (by decide), o' 9 (by decide), x' 71 (by decide), x' 73 (by decide), ed, r2, t1, t3]
    refine ⟨by omega, by omega, by omega, by omega, by omega, by omega, by omega, by omega, ?_⟩
    obtain ⟨m3, hm3⟩ : ∃ m3, m3 = gh_u (gh_u m' 63 9 (md + 1)) 71 (k2.length : Int) ((ps.length : Int) - a) := ⟨_, rfl⟩
    rw [← hm3]
    have x3 : gx [63, 71] m' m3 := by
      rw [hm3]
      exact gx_u (gx_u gx_rf (by decide)) (by decide)
    have o63 : ∀ y, y ≠ 9 → m3 63 y = m' 63 y := fun y yn => by
      rw [hm3, gh_u_a (by decide), gh_u_i yn]
    have s9 : m3 63 9 = md + 1 := by
      rw [hm3, gh_u_a (by decide), gh_u_s]
    have o71 : ∀ x, x ≠ (k2.length : Int) → m3 71 x = m 71 x := fun x xn => by
      rw [hm3, gh_u_i xn, gh_u_a (by decide), x' 71 (by decide)]
    have s71 : m3 71 k2.length = (ps.length : Int) - a := by
      rw [hm3, gh_u_s]
    clear hm3
    have x13 : gx [63, 66, 67, 68, 71] m m3 := gx_t (gx_sub x' (by decide)) (gx_sub x3 (by decide))
    have sk3 : go_skm m3 ((b, ps.drop a.toNat, a) :: k2) := ⟨by rw [s71, ld], by rw [x13 72 (by decide)]; exact go_rd_drop a.toNat ps t2, by rw [x13 73 (by decide)]; exact t3, fun z => by rw [x13 69 (by decide)]; exact t4 z, go_skm_cg k2 se (fun x x0 x1' => ⟨by rw [x13 69 (by decide)], o71 x (by omega), by rw [x13 73 (by decide)]⟩) (fun x x0 x1' => by rw [x13 72 (by decide)]) t5⟩
    refine go_madd (by omega) se (by omega) (by rw [o63 15 (by decide), o' 15 (by decide)]; exact ed) sk3 (fun m4 x4 s4 => ?_)
    have ed4 : m4 63 15 = k2.length := by rw [x4 63 (by decide), o63 15 (by decide), o' 15 (by decide)]; exact ed
    rw [ed4]
    refine ⟨by omega, by omega, ?_⟩
    obtain ⟨m5, hm5⟩ : ∃ m5, m5 = gh_u m4 73 (k2.length : Int) 0 := ⟨_, rfl⟩
    rw [← hm5]
    have x5 : gx [73] m4 m5 := by
      rw [hm5]
      exact gx_one _ _ _ _
    have o73 : ∀ x, x ≠ (k2.length : Int) → m5 73 x = m4 73 x := fun x xn => by
      rw [hm5, gh_u_i xn]
    have s73 : m5 73 k2.length = 0 := by
      rw [hm5, gh_u_s]
    clear hm5
    obtain ⟨v1, v2, v3, v4, v5⟩ := s4
    have x35 : gx [71, 72, 73] m3 m5 := gx_t (gx_sub x4 (by decide)) (gx_sub x5 (by decide))
    have x05 : gx [63, 66, 67, 68, 71, 72, 73] m m5 := gx_t (gx_sub x13 (by decide)) (gx_sub x35 (by decide))
    have o635 : ∀ y, y ≠ 9 → m5 63 y = m' 63 y := fun y yn => by rw [x35 63 (by decide), o63 y yn]
    refine H1 m5 ⟨gx_sub x05 (by decide), fun y hy => by rw [o635 y (by omega), o' y (by omega)]⟩ ⟨⟨by rw [o635 8 (by decide), o' 8 (by decide)]; exact r1, by rw [x35 63 (by decide)]; exact s9, by rw [o635 11 (by decide)]; exact s11, by rw [o635 16 (by decide), o' 16 (by decide)]; exact r4, by rw [o635 22 (by decide), o' 22 (by decide)]; exact r5⟩, by rw [x05 65 (by decide)]; exact r6, fun r r0 r1' => ?_, fun b' b0 b1 no => by rw [x05 70 (by decide)]; exact r8 b' b0 b1 no, by rw [x05 74 (by decide)]; exact r9, fun _ => ⟨?_, by rw [x5 71 (by decide)]; exact v1, by rw [x5 72 (by decide)]; exact v2, s73, fun z => by rw [x5 69 (by decide)]; exact v4 z, go_skm_cg k2 se (fun x x0 x1' => ⟨by rw [x5 69 (by decide)], by rw [x5 71 (by decide)], o73 x (by omega)⟩) (fun x x0 x1' => by rw [x5 72 (by decide)]) v5⟩⟩
    · have r2' : r < nr + 2 := r1'
      rw [x35 66 (by decide), x35 67 (by decide), x35 68 (by decide), x3 66 (by decide), x3 67 (by decide), x3 68 (by decide)]
      (try dsimp only)
      by_cases u : r = nr + 1
      · rw [u, go_upl_s, go_upd_s]
        exact ⟨s66', s67', rdb⟩
      · rw [go_upl_i u, go_upd_i u]
        by_cases v : r = nr
        · rw [v, go_upl_s, go_upd_s]
          exact ⟨s66, s67, rda⟩
        · rw [go_upl_i v, go_upd_i v, (o66 r v u).1, (o66 r v u).2]
          obtain ⟨y1, y2, y3⟩ := r7 r r0 (by omega)
          have y4 := (i6 r r0 (by omega)).1
          exact ⟨y1, y2, go_rd_mv _ (fun x x0 x1' => o68 _ (by omega)) y3⟩
    · rw [x35 63 (by decide), o63 15 (by decide), o' 15 (by decide), ed]
      have := go_len_cons (x := (b, (-2000 - md) :: ps.drop a.toNat, (0 : Int))) (k := k2)
      (try dsimp only)
      omega
  · refine go_mrow (nr := nr) (ps := ps) (a := a) (d := k2.length) i4.1 (by omega) i3.1 (by omega) r3 ed (by omega) (by omega) q1 t1 t3 q3 q4 q5 t2 (fun m1 x1 o1 s11 o66 s66 s67 o68 rd1 => ?_)
    rw [if_pos rfl, if_neg (by decide)] at s67 rd1
    have ea : La = ps.take a.toNat := by
      rw [hLa, if_neg (by omega)]
    have eb : Lb = [] := by
      rw [hLb, if_pos u]
    rw [← ea] at s67 rd1
    rw [o1 9 (by decide), r2]
    refine go_mrow (nr := nr + 1) (ps := ps) (a := a) (d := k2.length) (by omega) (by omega) i3.1 (by omega) s11 (by rw [o1 15 (by decide)]; exact ed) (by omega) (by omega) q1 (by rw [x1 71 (by decide)]; exact t1) (by rw [x1 73 (by decide)]; exact t3) q3 q4 q5 (by rw [x1 72 (by decide)]; exact t2) (fun m2 x2 o2 s11' o66' s66' s67' o68' rd2 => ?_)
    rw [if_pos rfl, if_pos rfl] at s67' rd2
    rw [← eb] at s67' rd2
    refine ⟨gx_t x1 x2, fun y yn => by rw [o2 y yn, o1 y yn], by rw [s11']; omega, fun x xn xn2 => ⟨by rw [(o66' x xn2).1, (o66 x xn).1], by rw [(o66' x xn2).2, (o66 x xn).2]⟩, ⟨by rw [(o66' nr (by omega)).1]; exact s66, s66', by rw [(o66' nr (by omega)).2]; exact s67, s67'⟩, fun x xl => by rw [o68' x (by omega), o68 x xl], go_rd_mv _ (fun x x0 x1' => o68' _ (by omega)) rd1, rd2⟩
  · refine go_mrow (nr := nr) (ps := ps) (a := a) (d := k2.length) i4.1 (by omega) i3.1 (by omega) r3 ed (by omega) (by omega) q1 t1 t3 q3 q4 q5 t2 (fun m1 x1 o1 s11 o66 s66 s67 o68 rd1 => ?_)
    have ea : (if (if si = 43 then (1 : Int) else 0) = 0 then ([] : List Int) else ps.take a.toNat) = La := by
      rw [hLa]
      by_cases v : si = 43
      · rw [if_pos v, if_neg (by decide), if_neg (by omega)]
      · rw [if_neg v, if_pos rfl, if_pos (by omega)]
    have eb : Lb = ps.take a.toNat ++ [-2000 - md] := by
      rw [hLb, if_neg u]
    rw [if_pos rfl, ea] at s67 rd1
    rw [o1 9 (by decide), r2]
    refine go_mrow (nr := nr + 1) (ps := ps) (a := a) (d := k2.length) (by omega) (by omega) i3.1 (by omega) s11 (by rw [o1 15 (by decide)]; exact ed) (by omega) (by omega) q1 (by rw [x1 71 (by decide)]; exact t1) (by rw [x1 73 (by decide)]; exact t3) q3 q4 q5 (by rw [x1 72 (by decide)]; exact t2) (fun m2 x2 o2 s11' o66' s66' s67' o68' rd2 => ?_)
    rw [if_neg (by omega), if_neg (by decide), ← eb] at s67' rd2
    refine ⟨gx_t x1 x2, fun y yn => by rw [o2 y yn, o1 y yn], by rw [s11']; omega, fun x xn xn2 => ⟨by rw [(o66' x xn2).1, (o66 x xn).1], by rw [(o66' x xn2).2, (o66 x xn).2]⟩, ⟨by rw [(o66' nr (by omega)).1]; exact s66, s66', by rw [(o66' nr (by omega)).2]; exact s67, s67'⟩, fun x xl => by rw [o68' x (by omega), o68 x xl], go_rd_mv _ (fun x x0 x1' => o68' _ (by omega)) rd1, rd2⟩
/-- the model takes a token within a row -/
theorem go_mtakes {T : Int → Int} {c pos pl kd si e nt md nr br ns : Int} {ta ow mb sa : Int → Int} {rl : Int → List Int} {sk : go_K} {m : gh_M} {Q : Int → gh_M → Prop} (mt : gr_mt T c m) (iv : go_iv T c pos ((2, nt, md, nr, br, ns), (ta, ow, rl, mb, sa), sk)) (rm : go_rm ((2, nt, md, nr, br, ns), (ta, ow, rl, mb, sa), sk) m) (p0 : 0 ≤ pos) (pp : pos ≤ pl) (plc : kd ≠ 1 → pl < c) (tk : gr_tok T c pl kd si e) (k0 : kd ≠ 0) (kr : 0 ≤ kd ∧ kd ≤ 5) (e5 : m 63 5 = kd) (e6 : m 63 6 = pl) (e7 : m 63 7 = si) (H0 : (go_act T c ((2, nt, md, nr, br, ns), (ta, ow, rl, mb, sa), sk) pl kd si e).1 ≠ 0 → Q (go_act T c ((2, nt, md, nr, br, ns), (ta, ow, rl, mb, sa), sk) pl kd si e).1 m) (H1 : (go_act T c ((2, nt, md, nr, br, ns), (ta, ow, rl, mb, sa), sk) pl kd si e).1 = 0 → ∀ m2, go_fr m m2 → go_rm (go_act T c ((2, nt, md, nr, br, ns), (ta, ow, rl, mb, sa), sk) pl kd si e).2 m2 → Q 0 m2) : w_Model_takes m Q := by
  have iv0 := iv
  obtain ⟨i1, i2, i3, i4, i5, i6, i7, ⟨i8, i9, i10, i11, i12⟩, i13, i14, i15⟩ := iv
  have rm0 := rm
  obtain ⟨⟨r1, r2, r3, r4, r5⟩, r6, r7, r8, r9, r10⟩ := rm
  unfold go_act at H0 H1
  (try dsimp only at i1 i2 i3 i4 i5 i6 i7 i8 i9 i10 i11 i12 i13 i14 i15 r1 r2 r3 r4 r5 r6 r7 r8 r9 r10 H0 H1)
  rw [if_neg k0, if_neg (by decide), if_neg (by decide)] at H0 H1
  cases sk with
  | nil => exact absurd rfl (i11 rfl)
  | cons x k2 =>
    obtain ⟨b, ps, a⟩ := x
    (try dsimp only at H0 H1)
    unfold go_row at H0 H1
    (try dsimp only at H0 H1)
    obtain ⟨⟨q1, q2, q3, q4, q5⟩, q6⟩ := i9
    have lc := go_len_cons (x := (b, ps, a)) (k := k2)
    have ed : m 63 15 = k2.length := by
      have := (r10 rfl).1
      omega
    unfold w_Model_takes
    rw [e5, e7, r3, ed]
    by_cases w : kd = 2 ∨ kd = 3 ∨ kd = 4
    · rw [if_pos w] at H0 H1
      refine ⟨True, fun _ => go_msets mt iv0 rm0 p0 pp (plc (by omega)) tk e5 e6 w (fun w4 => ?_) (fun w4 => ?_), fun _ => trivial, fun z => absurd w z⟩
      · rw [if_pos w4] at H0
        exact H0 (fun z => go_no z (by decide))
      · rw [if_neg (by omega)] at H1
        exact H1 rfl
    rw [if_neg w] at H0 H1
    refine ⟨False, fun z => False.elim z, fun z => absurd z w, fun _ => ⟨fun z => ?_, fun z => ?_⟩⟩
    · rw [if_pos z] at H0
      exact H0 (fun z => go_no z (by decide))
    have z' : ¬ (kd ≠ 5 ∨ si = 58) := z
    rw [if_neg z'] at H0 H1
    refine ⟨fun q => ?_, fun q => ⟨fun q2 => ?_, fun q2 => ?_⟩⟩
    · rw [if_pos q] at H0 H1
      refine go_mopen iv0 rm0 (fun l3 => ?_) (fun l3 => ?_)
      · rw [if_pos l3] at H0
        exact H0 (fun z => go_no z (by decide))
      · rw [if_neg l3] at H1
        exact H1 rfl
    · rw [if_neg q, if_pos q2] at H0 H1
      cases k2 with
      | nil =>
        have e0 : m 63 15 = 0 := ed
        unfold w_Model_closes
        rw [e0]
        exact ⟨fun _ => H0 (fun z => go_no z (by decide)), fun z => absurd rfl z⟩
      | cons x2 k3 =>
        obtain ⟨b2, ps2, a2⟩ := x2
        (try dsimp only at H0 H1)
        refine go_mclose iv0 rm0 (fun r3' => ?_) (fun r3' => ?_)
        · rw [if_pos r3'] at H0
          exact H0 (fun z => go_no z (by decide))
        · rw [if_neg r3'] at H1
          exact H1 rfl
    · rw [if_neg q, if_neg q2] at H0 H1
      refine ⟨si = 124 ∨ si = 59, fun qe => ?_, fun qe => qe, fun qe => ?_⟩
      · rw [if_pos qe] at H0 H1
        refine ⟨¬ (si = 59 ∧ k2 ≠ []), fun q59 => ?_, fun y => fun y2 => ?_, fun y => ?_⟩
        · rw [if_neg q59] at H0 H1
          refine ⟨fun r20 => ?_, fun r20 => ?_⟩
          · rw [if_pos r20] at H0
            exact H0 (fun z => go_no z (by decide))
          · rw [if_neg r20] at H1
            have H1 := H1 rfl
            refine go_mend ⟨pos, iv0⟩ rm0 rfl (by omega) (fun m2 f2 e70 w2 => H1 m2 f2 ?_)
            obtain ⟨w1, w3, w4, w5, w6, w7⟩ := w2
            refine ⟨w1, w3, w4, w5, w6, fun _ => w7 rfl⟩
        · have : k2.length ≠ 0 := fun z => y2.2 (List.eq_nil_of_length_eq_zero z)
          omega
        · have y' : si = 59 ∧ k2 ≠ [] := by
            by_cases u : si = 59
            · refine ⟨u, fun v => ?_⟩
              rw [v] at y
              exact y (Or.inr (by decide))
            · exact absurd (Or.inl u) y
          rw [if_pos y'] at H0
          exact H0 (fun z => go_no z (by decide))
      · rw [if_neg qe] at H0 H1
        have k5 : kd = 5 := by omega
        rw [k5] at tk
        have mk := gr_tok_mark tk
        unfold gr_mark at mk
        refine go_mrep iv0 rm0 e7 (by omega) (fun a0 => ?_) (fun a0 r3' => ?_) (fun a0 r3' => ?_)
        · rw [if_pos a0] at H0
          exact H0 (fun z => go_no z (by decide))
        · rw [if_neg a0, if_pos r3'] at H0
          exact H0 (fun z => go_no z (by decide))
        · rw [if_neg a0, if_neg r3'] at H1
          exact H1 rfl
