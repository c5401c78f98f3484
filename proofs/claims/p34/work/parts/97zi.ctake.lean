/-! READING: the class takes a token -/
theorem go_oc_sk {sk sk2 : go_K} {mb : Int → Int} {o x : Int} (h : ∀ b l, go_lv sk b l ↔ go_lv sk2 b l) (w : go_oc sk mb o x) : go_oc sk2 mb o x := by
  rcases w with w | w | ⟨b, b0, b1, b2, w⟩
  · exact Or.inl w
  · exact Or.inr (Or.inl w)
  · refine Or.inr (Or.inr ⟨b, b0, b1, b2, ?_⟩)
    rcases w with ⟨l, y1, y2⟩ | ⟨y1, y2⟩
    · exact Or.inl ⟨l, (h b l).mp y1, y2⟩
    · exact Or.inr ⟨fun l z => y1 l ((h b l).mpr z), y2⟩
theorem go_se_big {T : Int → Int} {c md : Int} (h : md ≤ 8) {k : go_K} (w : go_se T c md k) : go_se T c 1000000 k := go_se_up (by omega) k w
/-- a row ends: it is one of its owner -/
theorem go_iendRow {T : Int → Int} {c st nt md nr br ns b a : Int} {ta ow mb sa : Int → Int} {rl : Int → List Int} {ps : List Int} {k : go_K} {m : gh_M} {Q : Int → gh_M → Prop} (iv : ∃ pos, go_iv T c pos ((st, nt, md, nr, br, ns), (ta, ow, rl, mb, sa), (b, ps, a) :: k)) (rc : go_rc T c ((st, nt, md, nr, br, ns), (ta, ow, rl, mb, sa), (b, ps, a) :: k) m) (s2 : st = 2) (r20 : nr < 20) (H : ∀ m2, gx [5, 6, 8, 9, 10, 11] m m2 → (∀ y, y ≠ 6 → m2 5 y = m 5 y) → (∀ y, y ≠ 3 → m2 6 y = m 6 y) → go_rc T c ((st, nt, md, nr + 1, br, ns), (ta, gm_upd ow nr (if k = [] then nt - 1 else 100 + b), go_upl rl nr ps, mb, sa), (b, [], 0) :: k) m2 → Q 0 m2) : w_Reader_endRow m Q := by
  obtain ⟨pos, i1, i2, i3, i4, i5, i6, i7, ⟨i8, i9, i10, i11, i12⟩, i13, i14, i15⟩ := iv
  obtain ⟨⟨r1, r2, r3, r4⟩, r5, r6, r7⟩ := rc
  (try dsimp only at i1 i2 i3 i4 i5 i6 i7 i8 i9 i10 i11 i12 i13 i14 i15 r1 r2 r3 r4 r5 r6 r7)
  obtain ⟨r8, ⟨t1, t2, t3⟩, r10⟩ := r7 s2
  obtain ⟨⟨q1, q2, q3, q4, q5⟩, q6⟩ := i9
  obtain ⟨d1, d2, d3, d4⟩ := i10
  have lc := go_len_cons (x := (b, ps, a)) (k := k)
  have e5 : m 5 5 = k.length := by omega
  have n1 := i13 (by omega)
  have i2a : 0 ≤ nt ∧ nt ≤ 8 := i2.1
  unfold w_Reader_endRow w_Draft_addRow_12
  rw [e5, t1, r2]
  refine ⟨by omega, by omega, by omega, ⟨fun _ => by omega, fun _ => by omega⟩, ?_⟩
  refine go_add (nr := nr) i4.1 r20 r4 (by omega) (by rw [if_pos rfl]; omega) (by omega) (by omega) (fun m2 x2 o6 s6 o8 s8 o9 s9 o10 _ w10 => ?_)
  rw [if_pos rfl] at s9 w10
  unfold w_Reader_startRow
  rw [x2 5 (by decide), e5]
  refine ⟨by omega, by omega, ?_⟩
  obtain ⟨m3, hm3⟩ : ∃ m3, m3 = gh_u (gh_u m2 11 (k.length : Int) 0) 5 6 0 := ⟨_, rfl⟩
  rw [← hm3]
  have x3 : gx [5, 11] m2 m3 := by
    rw [hm3]
    exact gx_u (gx_u gx_rf (by decide)) (by decide)
  have o5 : ∀ y, y ≠ 6 → m3 5 y = m 5 y := fun y yn => by
    rw [hm3, gh_u_i yn, gh_u_a (by decide), x2 5 (by decide)]
  have s56 : m3 5 6 = 0 := by
    rw [hm3, gh_u_s]
  have o11 : ∀ x, x ≠ (k.length : Int) → m3 11 x = m 11 x := fun x xn => by
    rw [hm3, gh_u_a (by decide), gh_u_i xn, x2 11 (by decide)]
  have s11 : m3 11 (k.length : Int) = 0 := by
    rw [hm3, gh_u_a (by decide), gh_u_s]
  clear hm3
  refine H m3 (gx_t (gx_sub x2 (by decide)) (gx_sub x3 (by decide))) o5 (fun y yn => by rw [x3 6 (by decide)]; exact o6 y yn) ?_
  have lv : ∀ b' l, go_lv ((b, ps, a) :: k) b' l ↔ go_lv ((b, ([] : List Int), (0 : Int)) :: k) b' l := fun _ _ => Iff.rfl
  refine ⟨⟨by rw [o5 4 (by decide)]; exact r1, by rw [x3 6 (by decide), o6 1 (by decide)]; exact r2, by rw [x3 6 (by decide), o6 2 (by decide)]; exact r3, by rw [x3 6 (by decide)]; exact s6⟩, fun x x0 x1 => by rw [x3 7 (by decide), x2 7 (by decide)]; exact r5 x x0 x1, fun r r0 r1 => ?_, fun _ => ⟨?_, ⟨s11, trivial, go_skc_cg k (go_se_big (by omega) q6) (fun x x0 x1 => o11 x (by omega)) (fun x x0 x1 => by rw [x3 12 (by decide), x2 12 (by decide)]) t3⟩, s56⟩⟩
  · (try dsimp only at r1 ⊢)
    rw [x3 9 (by decide), x3 10 (by decide), x3 8 (by decide)]
    by_cases u : r = nr
    · rw [u, go_upl_s, go_upd_s, s9, s8]
      refine ⟨by omega, go_rd_mv ps (fun x x0 x1 => ?_) t2, ?_⟩
      · have := w10 x x0 x1
        have e : nr * 4 + 0 + x = nr * 4 + x := by omega
        rw [e] at this
        exact this
      · by_cases w : k = []
        · rw [if_pos w, w]
          rw [if_pos (show ((([] : go_K).length : Nat) : Int) = 0 from rfl)]
          exact Or.inl ⟨by omega, rfl⟩
        · have kl : k.length ≠ 0 := fun z => w (List.eq_nil_of_length_eq_zero z)
          rw [if_neg w, if_neg (by omega)]
          exact Or.inr (Or.inr ⟨b, d3.mpr w, by omega, rfl, Or.inl ⟨k.length, Or.inl ⟨rfl, rfl⟩, rfl⟩⟩)
    · rw [go_upl_i u, go_upd_i u, o9 r u, o8 r u]
      obtain ⟨y1, y2, y3⟩ := r6 r r0 (by omega)
      have y4 := (i6 r r0 (by omega)).1
      exact ⟨y1, go_rd_mv _ (fun x x0 x1 => o10 _ (by omega)) y2, go_oc_sk lv y3⟩
  · rw [o5 5 (by decide)]
    exact r8
theorem go_iadd {T : Int → Int} {c nr md ahead n : Int} {L : List Int} {whose f : Int} {m : gh_M} {Q : Int → gh_M → Prop} (r0 : 0 ≤ nr) (r20 : nr < 20) (e3 : m 6 3 = nr) (hn : n = L.length) (hL : (if ahead = 0 then 0 else 1) + (L.length : Int) ≤ 4) (f0 : 0 ≤ f) (f16 : f + L.length ≤ 16) (rd : go_rd (go_cp T c) (m 12) f L) (p : Int) (cp : ahead ≠ 0 → go_cp T c p ahead) (H : ∀ m2, gx [6, 8, 9, 10] m m2 → (∀ y, y ≠ 3 → m2 6 y = m 6 y) → m2 6 3 = nr + 1 → (∀ x, x ≠ nr → m2 8 x = m 8 x) → m2 8 nr = whose → (∀ x, x ≠ nr → m2 9 x = m 9 x) → m2 9 nr = ((if ahead = 0 then L else L ++ [p]).length : Int) → (∀ x, x < nr * 4 → m2 10 x = m 10 x) → go_rd (go_cp T c) (m2 10) (nr * 4) (if ahead = 0 then L else L ++ [p]) → Q 0 m2) : w_Draft_add_12 whose ahead f n m Q := by
  rw [hn]
  refine go_add (nr := nr) r0 r20 e3 (by omega) hL f0 f16 (fun m2 x2 o6 s6 o8 s8 o9 s9 o10 a10 w10 => H m2 x2 o6 s6 o8 s8 o9 ?_ o10 ?_)
  · rw [s9]
    by_cases u : ahead = 0
    · rw [if_pos u, if_pos u]
      omega
    · rw [if_neg u, if_neg u, List.length_append]
      show 1 + (L.length : Int) = ((L.length + 1 : Nat) : Int)
      omega
  · by_cases u : ahead = 0
    · rw [if_pos u] at w10 ⊢
      refine go_rd_mv L (fun x x0 x1 => ?_) rd
      have := w10 x x0 x1
      have e : nr * 4 + 0 + x = nr * 4 + x := by omega
      rw [e] at this
      exact this
    · rw [if_neg u] at w10 ⊢
      refine go_rd_snoc L (by rw [a10 u]; exact cp u) (go_rd_mv L (fun x x0 x1 => w10 x x0 x1) rd)
theorem go_skc_eq {T : Int → Int} {c : Int} {m m2 : gh_M} (e11 : m2 11 = m 11) (e12 : m2 12 = m 12) : ∀ k : go_K, go_skc T c m k → go_skc T c m2 k
  | [], _ => trivial
  | (b, ps, a) :: k, ⟨h1, h2, h3⟩ => ⟨by rw [e11]; exact h1, by rw [e12]; exact h2, go_skc_eq e11 e12 k h3⟩
theorem go_oc_b {sk sk2 : go_K} {mb : Int → Int} {o x br : Int} (ob : o < 200 → o < 100 + br) (h : ∀ b l, 0 ≤ b → b < br → (go_lv sk b l ↔ go_lv sk2 b l)) (w : go_oc sk mb o x) : go_oc sk2 mb o x := by
  rcases w with w | w | ⟨b, b0, b1, b2, w⟩
  · exact Or.inl w
  · exact Or.inr (Or.inl w)
  · have bb : b < br := by omega
    refine Or.inr (Or.inr ⟨b, b0, b1, b2, ?_⟩)
    rcases w with ⟨l, y1, y2⟩ | ⟨y1, y2⟩
    · exact Or.inl ⟨l, (h b l b0 bb).mp y1, y2⟩
    · exact Or.inr ⟨fun l z => y1 l ((h b l b0 bb).mpr z), y2⟩
theorem go_take_name {T : Int → Int} {c pos pl si e nt md nr br ns : Int} {ta ow mb sa : Int → Int} {rl : Int → List Int} {sk : go_K} {m : gh_M} {Q : Int → gh_M → Prop} (ct : gr_ct T c m) (iv : go_iv T c pos ((0, nt, md, nr, br, ns), (ta, ow, rl, mb, sa), sk)) (rc : go_rc T c ((0, nt, md, nr, br, ns), (ta, ow, rl, mb, sa), sk) m) (pl0 : 0 ≤ pl) (tk : gr_tok T c pl 2 si e) (e2 : m 3 2 = 1) (e3 : m 3 3 = pl) (e4 : m 3 4 = e) (n8 : nt < 8) (H : ∀ m2, gx [5, 6, 7, 8, 9, 10, 11, 12] m m2 → (∀ y, y < 3 → m2 5 y = m 5 y) → go_rc T c ((1, nt + 1, md, nr, br, ns), (gm_upd ta nt pl, ow, rl, mb, sa), sk) m2 → Q 0 m2) : w_Reader_take m Q := by
  obtain ⟨i1, i2, i3, i4, i5, i6, i7, ⟨i8, i9, i10, i11, i12⟩, i13, i14, i15⟩ := iv
  obtain ⟨⟨r1, r2, r3, r4⟩, r5, r6, r7⟩ := rc
  (try dsimp only at i1 i2 i3 i4 i5 i6 i7 i8 i9 i10 i11 i12 i13 i14 i15 r1 r2 r3 r4 r5 r6 r7)
  have i2a : 0 ≤ nt ∧ nt ≤ 8 := i2.1
  obtain ⟨d, hd, he⟩ := gr_tok_nm pl0 tk
  unfold w_Reader_take
  rw [e2]
  refine ⟨fun _ => ?_, fun z => absurd z (by decide), fun z => absurd z (by decide), fun z => absurd z (by decide), fun z => absurd z (by decide), fun z => absurd z (by decide), fun z => absurd (Or.inl rfl) z⟩
  unfold w_Reader_takeWord
  refine ⟨fun _ => gr_key ct hd e3 (by omega) ?_, fun z => absurd r1 z⟩
  unfold w_Draft_tell
  rw [r2]
  refine ⟨fun _ => ⟨by omega, n8, by omega, ?_⟩, fun z => absurd n8 z⟩
  obtain ⟨m3, hm3⟩ : ∃ m3, m3 = gh_u (gh_u (gh_u m 7 nt (gr_kf T d pl)) 6 1 (nt + 1)) 5 4 1 := ⟨_, rfl⟩
  rw [← hm3]
  have x3 : gx [5, 6, 7] m m3 := by
    rw [hm3]
    exact gx_u (gx_u (gx_u gx_rf (by decide)) (by decide)) (by decide)
  have o5 : ∀ y, y ≠ 4 → m3 5 y = m 5 y := fun y yn => by
    rw [hm3, gh_u_i yn, gh_u_a (by decide), gh_u_a (by decide)]
  have s54 : m3 5 4 = 1 := by
    rw [hm3, gh_u_s]
  have o6 : ∀ y, y ≠ 1 → m3 6 y = m 6 y := fun y yn => by
    rw [hm3, gh_u_a (by decide), gh_u_i yn, gh_u_a (by decide)]
  have s61 : m3 6 1 = nt + 1 := by
    rw [hm3, gh_u_a (by decide), gh_u_s]
  have o7 : ∀ y, y ≠ nt → m3 7 y = m 7 y := fun y yn => by
    rw [hm3, gh_u_a (by decide), gh_u_a (by decide), gh_u_i yn]
  have s7 : m3 7 nt = gr_kf T d pl := by
    rw [hm3, gh_u_a (by decide), gh_u_a (by decide), gh_u_s]
  clear hm3
  refine H m3 (gx_sub x3 (by decide)) (fun y y3 => o5 y (by omega)) ⟨⟨s54, s61, by rw [o6 2 (by decide)]; exact r3, by rw [o6 3 (by decide)]; exact r4⟩, fun x x0 x1 => ?_, fun r r0 r1' => ?_, fun z => absurd (show (1 : Int) = 2 from z) (by decide)⟩
  · have x1' : x < nt + 1 := x1
    show gr_kof T c (gm_upd ta nt pl x) (m3 7 x)
    by_cases u : x = nt
    · rw [u, go_upd_s, s7]
      exact ⟨d, hd, rfl⟩
    · rw [go_upd_i u, o7 x u]
      exact r5 x x0 (by omega)
  · rw [x3 9 (by decide), x3 10 (by decide), x3 8 (by decide)]
    exact r6 r r0 r1'
theorem go_take_colon {T : Int → Int} {c pos nt md nr br ns : Int} {ta ow mb sa : Int → Int} {rl : Int → List Int} {sk : go_K} {m : gh_M} {Q : Int → gh_M → Prop} (iv : go_iv T c pos ((1, nt, md, nr, br, ns), (ta, ow, rl, mb, sa), sk)) (rc : go_rc T c ((1, nt, md, nr, br, ns), (ta, ow, rl, mb, sa), sk) m) (e2 : m 3 2 = 58) (H : ∀ m2, gx [5, 6, 7, 8, 9, 10, 11, 12] m m2 → (∀ y, y < 3 → m2 5 y = m 5 y) → go_rc T c ((2, nt, md, nr, br, ns), (ta, ow, rl, mb, sa), [(-1, [], 0)]) m2 → Q 0 m2) : w_Reader_take m Q := by
  obtain ⟨i1, i2, i3, i4, i5, i6, i7, ⟨i8, i9, i10, i11, i12⟩, i13, i14, i15⟩ := iv
  obtain ⟨⟨r1, r2, r3, r4⟩, r5, r6, r7⟩ := rc
  (try dsimp only at i1 i2 i3 i4 i5 i6 i7 i8 i9 i10 i11 i12 i13 i14 i15 r1 r2 r3 r4 r5 r6 r7)
  have i2a : 0 ≤ nt ∧ nt ≤ 8 := i2.1
  have l1 := i12 (by decide)
  unfold w_Reader_take
  rw [e2]
  refine ⟨fun z => by omega, fun z => absurd z (by decide), fun z => absurd z (by decide), fun _ => ?_, fun z => absurd z (by decide), fun z => absurd z (by decide), fun _ _ _ z => absurd rfl z⟩
  unfold w_Reader_startRow
  rw [gh_u_s]
  refine ⟨by decide, by decide, ?_⟩
  obtain ⟨m3, hm3⟩ : ∃ m3, m3 = gh_u (gh_u (gh_u (gh_u m 5 4 2) 5 5 0) 11 0 0) 5 6 0 := ⟨_, rfl⟩
  rw [← hm3]
  have x3 : gx [5, 11] m m3 := by
    rw [hm3]
    exact gx_u (gx_u (gx_u (gx_u gx_rf (by decide)) (by decide)) (by decide)) (by decide)
  have o5 : ∀ y, y < 4 → m3 5 y = m 5 y := fun y yn => by
    rw [hm3, gh_u_i (by omega), gh_u_a (by decide), gh_u_i (by omega), gh_u_i (by omega)]
  have s54 : m3 5 4 = 2 := by
    rw [hm3, gh_u_i (by decide), gh_u_a (by decide), gh_u_i (by decide), gh_u_s]
  have s55 : m3 5 5 = 0 := by
    rw [hm3, gh_u_i (by decide), gh_u_a (by decide), gh_u_s]
  have s56 : m3 5 6 = 0 := by
    rw [hm3, gh_u_s]
  have s11 : m3 11 0 = 0 := by
    rw [hm3, gh_u_a (by decide), gh_u_s]
  clear hm3
  have no : ∀ b l, 0 ≤ b → ¬ go_lv sk b l := fun b l b0 => by
    cases sk with
    | nil => exact id
    | cons x k => exact go_lv_0 (by omega) i10 b0
  refine H m3 (gx_sub x3 (by decide)) (fun y y3 => o5 y (by omega)) ⟨⟨s54, by rw [x3 6 (by decide)]; exact r2, by rw [x3 6 (by decide)]; exact r3, by rw [x3 6 (by decide)]; exact r4⟩, fun x x0 x1 => by rw [x3 7 (by decide)]; exact r5 x x0 x1, fun r r0 r1' => ?_, fun _ => ⟨s55, ⟨s11, trivial, trivial⟩, s56⟩⟩
  rw [x3 9 (by decide), x3 10 (by decide), x3 8 (by decide)]
  obtain ⟨y1, y2, y3⟩ := r6 r r0 r1'
  refine ⟨y1, y2, go_oc_b (br := 100) (fun z => by omega) (fun b l b0 _ => ⟨fun z => absurd z (no b l b0), fun z => ?_⟩) y3⟩
  rcases z with z | z
  · have := z.1
    omega
  · exact False.elim z
theorem go_take_word {T : Int → Int} {c pos pl kd si e nt md nr br ns ns2 b a : Int} {ta ow mb sa sa2 : Int → Int} {rl : Int → List Int} {ps : List Int} {k2 : go_K} {m : gh_M} {Q : Int → gh_M → Prop} (ct : gr_ct T c m) (iv : go_iv T c pos ((2, nt, md, nr, br, ns), (ta, ow, rl, mb, sa), (b, ps, a) :: k2)) (rc : go_rc T c ((2, nt, md, nr, br, ns), (ta, ow, rl, mb, sa), (b, ps, a) :: k2) m) (pl0 : 0 ≤ pl) (plc : pl ≤ c) (ple : pl ≤ e) (e240 : e ≤ 1000) (tk : gr_tok T c pl kd si e) (e2 : m 3 2 = gr_ck kd si) (e3 : m 3 3 = pl) (e4 : m 3 4 = e) (w : kd = 2 ∨ kd = 3 ∨ kd = 4) (w4 : (ps.length : Int) + go_w kd pl e ≤ 4) (H : ∀ m2, gx [5, 6, 7, 8, 9, 10, 11, 12] m m2 → (∀ y, y < 3 → m2 5 y = m 5 y) → go_rc T c ((2, nt, md, nr, br, ns2), (ta, ow, rl, mb, sa2), (b, go_new T kd pl (go_w kd pl e) ++ ps, go_w kd pl e) :: k2) m2 → Q 0 m2) : w_Reader_take m Q := by
  obtain ⟨i1, i2, i3, i4, i5, i6, i7, ⟨i8, i9, i10, i11, i12⟩, i13, i14, i15⟩ := iv
  obtain ⟨⟨r1, r2, r3, r4⟩, r5, r6, r7⟩ := rc
  (try dsimp only at i1 i2 i3 i4 i5 i6 i7 i8 i9 i10 i11 i12 i13 i14 i15 r1 r2 r3 r4 r5 r6 r7)
  have i2a : 0 ≤ nt ∧ nt ≤ 8 := i2.1
  have c240 := ct.2.2.1
  obtain ⟨r8, r9, r10⟩ := r7 rfl
  obtain ⟨⟨q1, q2, q3, q4, q5⟩, q6⟩ := i9
  have se := go_se_big (by omega) q6
  have lc := go_len_cons (x := (b, ps, a)) (k := k2)
  have e5 : m 5 5 = k2.length := by omega
  obtain ⟨n1, n2, n3⟩ := go_new_v (md := md) pl0 tk w
  have e32 : (kd = 2 → m 3 2 = 1) ∧ (kd = 3 → m 3 2 = 2) ∧ (kd = 4 → m 3 2 = 3) := by
    rw [e2]
    exact ⟨fun y => by rw [y]; rfl, fun y => by rw [y]; rfl, fun y => by rw [y]; rfl⟩
  have wid : ∀ m', gx [11, 12] m m' → k_Tape_width m' ∧ x_Tape_width m' = go_w kd pl e := fun m' x' => by
    unfold k_Tape_width x_Tape_width go_w
    rw [x' 3 (by decide), e3, e4]
    refine ⟨fun _ => by omega, ?_⟩
    by_cases u : kd = 3
    · rw [if_pos (e32.2.1 u), if_pos u]
    · rw [if_neg u, if_neg (fun z => by omega)]
  unfold w_Reader_take
  refine ⟨fun _ => ?_, fun z => by omega, fun z => by omega, fun z => by omega, fun z => by omega, fun z => by omega, fun z => absurd (by omega) z⟩
  unfold w_Reader_takeWord
  refine ⟨fun z => by omega, fun _ => ⟨fun m' => gx [11, 12] m m' ∧ ∀ b a : Int, go_skc T c m' ((b, go_new T kd pl (go_w kd pl e) ++ ps, a) :: k2), fun m' ⟨x', s'⟩ => ⟨(wid m' x').1, ?_⟩, fun z => ?_, fun z => ⟨fun z3 => ?_, fun z3 => ?_⟩⟩⟩
  · rw [(wid m' x').2]
    obtain ⟨m3, hm3⟩ : ∃ m3, m3 = gh_u m' 5 6 (go_w kd pl e) := ⟨_, rfl⟩
    rw [← hm3]
    have x3 : gx [5] m' m3 := by
      rw [hm3]
      exact gx_one _ _ _ _
    have o5 : ∀ y, y ≠ 6 → m3 5 y = m 5 y := fun y yn => by
      rw [hm3, gh_u_i yn, x' 5 (by decide)]
    have s56 : m3 5 6 = go_w kd pl e := by
      rw [hm3, gh_u_s]
    clear hm3
    refine H m3 (gx_t (gx_sub x' (by decide)) (gx_sub x3 (by decide))) (fun y y3 => o5 y (by omega)) ⟨⟨by rw [o5 4 (by decide)]; exact r1, by rw [x3 6 (by decide), x' 6 (by decide)]; exact r2, by rw [x3 6 (by decide), x' 6 (by decide)]; exact r3, by rw [x3 6 (by decide), x' 6 (by decide)]; exact r4⟩, fun x x0 x1 => by rw [x3 7 (by decide), x' 7 (by decide)]; exact r5 x x0 x1, fun r r0 r1' => ?_, fun _ => ⟨?_, go_skc_eq (x3 11 (by decide)) (x3 12 (by decide)) _ (s' b _), s56⟩⟩
    · rw [x3 9 (by decide), x' 9 (by decide), x3 10 (by decide), x' 10 (by decide), x3 8 (by decide), x' 8 (by decide)]
      obtain ⟨y1, y2, y3⟩ := r6 r r0 r1'
      exact ⟨y1, y2, go_oc_sk (fun _ _ => Iff.rfl) y3⟩
    · rw [o5 5 (by decide), e5]
      have := go_len_cons (x := (b, go_new T kd pl (go_w kd pl e) ++ ps, go_w kd pl e)) (k := k2)
      (try dsimp only)
      omega
  · have k : kd = 2 := by omega
    rw [k] at tk
    obtain ⟨d, hd, he⟩ := gr_tok_nm pl0 tk
    have kb := gr_kof_b ⟨d, hd, rfl⟩
    have w1 : go_w kd pl e = 1 := by
      rw [k]
      rfl
    refine gr_key ct hd e3 (by omega) ⟨by omega, go_ipush (p := -1000 - pl) (by omega) se (by omega) e5 r9 (Or.inr (Or.inr ⟨by omega, by omega, gr_kf T d pl, ?_, rfl⟩)) (fun m2 x2 s2 => ⟨x2, ?_⟩)⟩
    · have : -1000 - (-1000 - pl) = pl := by omega
      rw [this]
      exact ⟨d, hd, rfl⟩
    · unfold go_new
      rw [if_pos k]
      exact s2
  · have k : kd = 4 := by omega
    rw [k] at tk
    have w1 : go_w kd pl e = 1 := by
      rw [k]
      rfl
    have nv := n3
    unfold go_new at nv
    rw [if_neg (by omega), if_pos k] at nv
    have pv := nv _ (List.mem_cons_self ..)
    have p0 : 0 < gh_ishl_f 1 (T (pl + 3) - 97 + 1) - gh_ishl_f 1 (T (pl + 1) - 97) := by
      obtain ⟨v1, v2, v3, v4, v5⟩ := gr_tok_cls tk
      unfold gr_in at v1 v3
      rw [gb_one (by omega) (by omega), gb_one (by omega) (by omega)]
      have a : 2 ^ (T (pl + 1) - 97).toNat < 2 ^ (T (pl + 3) - 97 + 1).toNat := Nat.pow_lt_pow_right (by decide) (by omega)
      generalize 2 ^ (T (pl + 1) - 97).toNat = u at *
      generalize 2 ^ (T (pl + 3) - 97 + 1).toNat = v at *
      omega
    refine go_setOfClass ct e3 pl0 (gr_tok_cls tk) (go_ipush (p := gh_ishl_f 1 (T (pl + 3) - 97 + 1) - gh_ishl_f 1 (T (pl + 1) - 97)) (by omega) se (by omega) e5 r9 (Or.inl ⟨p0, rfl⟩) (fun m2 x2 s2 => ⟨x2, ?_⟩))
    unfold go_new
    rw [if_neg (by omega), if_pos k]
    exact s2
  · have k : kd = 3 := by omega
    rw [k] at tk
    obtain ⟨d, d1, d2, d3, d4⟩ := gr_tok_quo tk
    have ew : go_w kd pl e = d := by
      unfold go_w
      rw [if_pos k]
      omega
    have en : go_new T kd pl (go_w kd pl e) = go_ql T pl d.toNat := by
      unfold go_new
      rw [if_neg (by omega), if_neg (by omega), ew]
    rw [en]
    rw [ew] at w4
    refine ⟨fun v m' => 0 ≤ v ∧ v ≤ d ∧ gx [11, 12] m m' ∧ ∀ b a : Int, go_skc T c m' ((b, go_ql T pl v.toNat ++ ps, a) :: k2), fun v _ => (10 - v).toNat, ⟨Int.le_refl _, by omega, gx_rf, fun b' a' => r9⟩, ?_⟩
    rintro v m' ⟨v0, v1, x', s'⟩
    unfold f_Reader_takeWord_81
    rw [(wid m' x').2, ew]
    refine ⟨(wid m' x').1, fun lt => ?_, fun ge => ?_⟩
    · have in1 := d1.2.1 v v0 lt
      have ct' : gr_ct T c m' := by
        unfold gr_ct
        rw [x' 3 (by decide), x' 4 (by decide)]
        exact ct
      have sa := gr_signAt ct' (pl + 1 + v)
      unfold gr_in at in1
      have ev := sa.2.1 in1.1 in1.2.1
      have sh := go_shl (x := T (pl + 1 + v) - 97) (by omega) (by omega)
      unfold k_Tape_setOfQuote x_Tape_setOfQuote
      rw [x' 3 (by decide), e3, ev]
      have lq : ((go_ql T pl v.toNat ++ ps).length : Int) = v + ps.length := by
        rw [List.length_append, go_ql_len]
        omega
      refine ⟨⟨by omega, by omega, sa.1, by omega⟩, go_ipush (p := gh_ishl_f 1 (T (pl + 1 + v) - 97)) (b := b) (a := a) (by omega) se (by omega) (by rw [x' 5 (by decide)]; exact e5) (s' b a) (Or.inl ⟨sh.1, rfl⟩) (fun m2 x2 s2 => ⟨by omega, ⟨by omega, by omega, gx_t x' x2, fun b' a' => ?_⟩, by (try dsimp only); omega⟩)⟩
      have e1 : (v + 1).toNat = v.toNat + 1 := by omega
      have e2' : pl + 1 + v = pl + ((v.toNat : Int) + 1) := by omega
      have := s2 b' a'
      rw [e2'] at this
      rw [e1]
      exact this
    · have e1 : v = d := by omega
      rw [e1] at s'
      exact ⟨x', s'⟩
theorem go_take_open {T : Int → Int} {c pos nt md nr br ns b a : Int} {ta ow mb sa : Int → Int} {rl : Int → List Int} {ps : List Int} {k2 : go_K} {m : gh_M} {Q : Int → gh_M → Prop} (iv : go_iv T c pos ((2, nt, md, nr, br, ns), (ta, ow, rl, mb, sa), (b, ps, a) :: k2)) (rc : go_rc T c ((2, nt, md, nr, br, ns), (ta, ow, rl, mb, sa), (b, ps, a) :: k2) m) (e2 : m 3 2 = 40) (k3 : k2.length ≠ 3) (H : ∀ m2, gx [5, 6, 7, 8, 9, 10, 11, 12] m m2 → (∀ y, y < 3 → m2 5 y = m 5 y) → go_rc T c ((2, nt, md, nr, br + 1, ns), (ta, ow, rl, mb, sa), (br, [], 0) :: (b, ps, a) :: k2) m2 → Q 0 m2) : w_Reader_take m Q := by
  obtain ⟨i1, i2, i3, i4, i5, i6, i7, ⟨i8, i9, i10, i11, i12⟩, i13, i14, i15⟩ := iv
  obtain ⟨⟨r1, r2, r3, r4⟩, r5, r6, r7⟩ := rc
  (try dsimp only at i1 i2 i3 i4 i5 i6 i7 i8 i9 i10 i11 i12 i13 i14 i15 r1 r2 r3 r4 r5 r6 r7)
  obtain ⟨r8, r9, r10⟩ := r7 rfl
  have i2a : 0 ≤ nt ∧ nt ≤ 8 := i2.1
  have se := go_se_big (by omega) i9
  have lc := go_len_cons (x := (b, ps, a)) (k := k2)
  have e5 : m 5 5 = k2.length := by omega
  unfold w_Reader_take
  refine ⟨fun z => by omega, fun _ => ⟨by omega, ?_⟩, fun z => by omega, fun z => by omega, fun z => by omega, fun z => by omega, fun _ z => absurd e2 z⟩
  rw [e5]
  have em : min ((k2.length : Int) + 1) 3 = k2.length + 1 := by omega
  rw [em]
  unfold w_Reader_startRow
  rw [gh_u_s]
  refine ⟨by omega, by omega, ?_⟩
  obtain ⟨m3, hm3⟩ : ∃ m3, m3 = gh_u (gh_u (gh_u m 5 5 ((k2.length : Int) + 1)) 11 ((k2.length : Int) + 1) 0) 5 6 0 := ⟨_, rfl⟩
  rw [← hm3]
  have x3 : gx [5, 11] m m3 := by
    rw [hm3]
    exact gx_u (gx_u (gx_u gx_rf (by decide)) (by decide)) (by decide)
  have o5 : ∀ y, y < 5 → m3 5 y = m 5 y := fun y yn => by
    rw [hm3, gh_u_i (by omega), gh_u_a (by decide), gh_u_i (by omega)]
  have s55 : m3 5 5 = (k2.length : Int) + 1 := by
    rw [hm3, gh_u_i (by decide), gh_u_a (by decide), gh_u_s]
  have s56 : m3 5 6 = 0 := by
    rw [hm3, gh_u_s]
  have o11 : ∀ x, x ≠ (k2.length : Int) + 1 → m3 11 x = m 11 x := fun x xn => by
    rw [hm3, gh_u_a (by decide), gh_u_i xn, gh_u_a (by decide)]
  have s11 : m3 11 ((k2.length : Int) + 1) = 0 := by
    rw [hm3, gh_u_a (by decide), gh_u_s]
  clear hm3
  have lc2 := go_len_cons (x := (br, ([] : List Int), (0 : Int))) (k := (b, ps, a) :: k2)
  refine H m3 (gx_sub x3 (by decide)) (fun y y3 => o5 y (by omega)) ⟨⟨by rw [o5 4 (by decide)]; exact r1, by rw [x3 6 (by decide)]; exact r2, by rw [x3 6 (by decide)]; exact r3, by rw [x3 6 (by decide)]; exact r4⟩, fun x x0 x1 => by rw [x3 7 (by decide)]; exact r5 x x0 x1, fun r r0 r1' => ?_, fun _ => ⟨?_, ⟨?_, trivial, go_skc_cg _ se (fun x x0 x1 => o11 x (by omega)) (fun x x0 x1 => by rw [x3 12 (by decide)]) r9⟩, s56⟩⟩
  · rw [x3 9 (by decide), x3 10 (by decide), x3 8 (by decide)]
    obtain ⟨y1, y2, y3⟩ := r6 r r0 r1'
    have ov := (i6 r r0 r1').2.2
    refine ⟨y1, y2, go_oc_b (br := br) (fun z => by (try dsimp only at z ⊢); omega) (fun b' l b0 b1 => ⟨fun z => Or.inr z, fun z => ?_⟩) y3⟩
    rcases z with z | z
    · have := z.1
      omega
    · exact z
  · rw [s55]
    (try dsimp only)
    omega
  · have e : (((b, ps, a) :: k2 : go_K).length : Int) = (k2.length : Int) + 1 := lc
    rw [e]
    exact s11
theorem go_take_end {T : Int → Int} {c pos nt md nr br ns b a s : Int} {ta ow mb sa : Int → Int} {rl : Int → List Int} {ps : List Int} {k2 : go_K} {m : gh_M} {Q : Int → gh_M → Prop} (iv : go_iv T c pos ((2, nt, md, nr, br, ns), (ta, ow, rl, mb, sa), (b, ps, a) :: k2)) (rc : go_rc T c ((2, nt, md, nr, br, ns), (ta, ow, rl, mb, sa), (b, ps, a) :: k2) m) (e2 : m 3 2 = s) (se : s = 124 ∨ s = 59) (n20 : nr < 20) (H : ∀ m2, gx [5, 6, 7, 8, 9, 10, 11, 12] m m2 → (∀ y, y < 3 → m2 5 y = m 5 y) → go_rc T c ((if s = 59 then 0 else 2, nt, md, nr + 1, br, ns), (ta, gm_upd ow nr (if k2 = [] then nt - 1 else 100 + b), go_upl rl nr ps, mb, sa), (b, [], 0) :: k2) m2 → Q 0 m2) : w_Reader_take m Q := by
  have s32 : ∀ m2, gx [5, 6, 8, 9, 10, 11] m m2 → m2 3 2 = m 3 2 := fun m2 x2 => by rw [x2 3 (by decide)]
  unfold w_Reader_take
  refine ⟨fun z => by omega, fun z => by omega, fun z => by omega, fun z => by omega, fun z => ?_, fun z => ?_, fun _ _ _ _ z y => by omega⟩
  · have e : s = 59 := by omega
    rw [if_pos e] at H
    refine go_iendRow ⟨pos, iv⟩ rc rfl n20 (fun m2 x2 o5 o6 w => ?_)
    obtain ⟨⟨w1, w2, w3, w4⟩, w5, w6, w7⟩ := w
    (try dsimp only at w1 w2 w3 w4 w5 w6 w7)
    have x3 : gx [5] m2 (gh_u m2 5 4 0) := gx_one _ _ _ _
    refine H _ (gx_t (gx_sub x2 (by decide)) (gx_sub x3 (by decide))) (fun y y3 => by rw [gh_u_i (by omega)]; exact o5 y (by omega)) ⟨⟨gh_u_s _ _ _ _, by rw [x3 6 (by decide)]; exact w2, by rw [x3 6 (by decide)]; exact w3, by rw [x3 6 (by decide)]; exact w4⟩, fun x x0 x1 => by rw [x3 7 (by decide)]; exact w5 x x0 x1, fun r r0 r1' => ?_, fun y => absurd (show (0 : Int) = 2 from y) (by decide)⟩
    rw [x3 9 (by decide), x3 10 (by decide), x3 8 (by decide)]
    exact w6 r r0 r1'
  · have e : s ≠ 59 := by omega
    rw [if_neg e] at H
    exact go_iendRow ⟨pos, iv⟩ rc rfl n20 (fun m2 x2 o5 o6 w => H m2 (gx_sub x2 (by decide)) (fun y y3 => o5 y (by omega)) w)
theorem go_take_close {T : Int → Int} {c pos nt md nr br ns b a b2 a2 : Int} {ta ow mb sa : Int → Int} {rl : Int → List Int} {ps ps2 : List Int} {k3 : go_K} {m : gh_M} {Q : Int → gh_M → Prop} (iv : go_iv T c pos ((2, nt, md, nr, br, ns), (ta, ow, rl, mb, sa), (b, ps, a) :: (b2, ps2, a2) :: k3)) (rc : go_rc T c ((2, nt, md, nr, br, ns), (ta, ow, rl, mb, sa), (b, ps, a) :: (b2, ps2, a2) :: k3) m) (e2 : m 3 2 = 41) (n20 : nr < 20) (n8 : nt + md < 8) (l4 : ps2.length < 4) (H : ∀ m2, gx [5, 6, 7, 8, 9, 10, 11, 12] m m2 → (∀ y, y < 3 → m2 5 y = m 5 y) → go_rc T c ((2, nt, md + 1, nr + 1, br, ns), (ta, gm_upd ow nr (100 + b), go_upl rl nr ps, gm_upd mb b md, sa), (b2, (-2000 - md) :: ps2, 1) :: k3) m2 → Q 0 m2) : w_Reader_take m Q := by
  have iv0 := iv
  obtain ⟨i1, i2, i3, i4, i5, i6, i7, ⟨i8, i9, i10, i11, i12⟩, i13, i14, i15⟩ := iv
  (try dsimp only at i1 i2 i3 i4 i5 i6 i7 i8 i9 i10 i11 i12 i13 i14 i15)
  have i2a : 0 ≤ nt ∧ nt ≤ 8 := i2.1
  obtain ⟨⟨q1, q2, q3, q4, q5⟩, ⟨g1, g2, g3, g4, g5⟩, q6⟩ := i9
  have se := go_se_big (by omega) q6
  obtain ⟨d1, d2, d3, h1, h2, h3, h4⟩ := i10
  have lc := go_len_cons (x := (b, ps, a)) (k := (b2, ps2, a2) :: k3)
  have lc2 := go_len_cons (x := (b2, ps2, a2)) (k := k3)
  have lc3 := go_len_cons (x := (b, ([] : List Int), (0 : Int))) (k := (b2, ps2, a2) :: k3)
  have lc4 := go_len_cons (x := (b2, (-2000 - md) :: ps2, (1 : Int))) (k := k3)
  have b0 : 0 ≤ b := d3.mpr (List.cons_ne_nil _ _)
  unfold w_Reader_take
  refine ⟨fun z => by omega, fun z => by omega, fun _ => ?_, fun z => by omega, fun z => by omega, fun z => by omega, fun _ _ z => absurd e2 z⟩
  refine go_iendRow ⟨pos, iv0⟩ rc rfl n20 (fun m2 x2 o5 o6 w => ?_)
  rw [if_neg (List.cons_ne_nil _ _)] at w
  obtain ⟨⟨w1, w2, w3, w4⟩, w5, w6, w7⟩ := w
  (try dsimp only at w1 w2 w3 w4 w5 w6 w7)
  obtain ⟨w8, ⟨t1, t2, t3⟩, w10⟩ := w7 rfl
  have e5 : m2 5 5 = (k3.length : Int) + 1 := by omega
  unfold w_Draft_close w_Draft_makeName
  rw [w3]
  have em : md + 1 - 1 = md := by omega
  rw [em]
  refine ⟨by omega, by omega, ?_⟩
  obtain ⟨m3, hm3⟩ : ∃ m3, m3 = gh_u m2 6 2 (md + 1) := ⟨_, rfl⟩
  rw [← hm3]
  have x3 : gx [6] m2 m3 := by
    rw [hm3]
    exact gx_one _ _ _ _
  have o63 : ∀ y, y ≠ 2 → m3 6 y = m2 6 y := fun y yn => by
    rw [hm3, gh_u_i yn]
  have s62 : m3 6 2 = md + 1 := by
    rw [hm3, gh_u_s]
  clear hm3
  refine ⟨fun v m' => 0 ≤ v ∧ v ≤ nr + 1 ∧ gx [8] m3 m' ∧ (∀ r, 0 ≤ r → r < v → m' 8 r = if m2 8 r = 16 + ((k3.length : Int) + 1) then 8 + md else m2 8 r) ∧ ∀ r, v ≤ r → m' 8 r = m2 8 r, fun v _ => (30 - v).toNat, ⟨Int.le_refl _, by omega, gx_rf, fun r a b => by omega, fun r _ => by rw [x3 8 (by decide)]⟩, ?_⟩
  rintro v m' ⟨v0, v1, x', w', ww'⟩
  unfold f_Draft_close_7
  rw [x' 6 (by decide), o63 3 (by decide), w4, e5]
  refine ⟨fun c' => ⟨by omega, by omega, by omega, fun m4 => 0 ≤ v ∧ v ≤ nr + 1 ∧ gx [8] m3 m4 ∧ (∀ r, 0 ≤ r → r < v + 1 → m4 8 r = if m2 8 r = 16 + ((k3.length : Int) + 1) then 8 + md else m2 8 r) ∧ ∀ r, v + 1 ≤ r → m4 8 r = m2 8 r, fun m4 j => ⟨by omega, ⟨by omega, by omega, j.2.2⟩, by (try dsimp only); omega⟩, fun y => ⟨by omega, by omega, by omega, ⟨v0, v1, gx_u x' (by decide), fun r r0 r1 => ?_, fun r r0 => ?_⟩⟩, fun y => ⟨v0, v1, x', fun r r0 r1 => ?_, fun r r0 => ww' r (by omega)⟩⟩, fun c' => ?_⟩
  · by_cases u : r = v
    · rw [u, gh_u_s, ← ww' v (by omega), if_pos y]
    · rw [gh_u_i u]
      exact w' r r0 (by omega)
  · rw [gh_u_i (by omega)]
    exact ww' r (by omega)
  · by_cases u : r = v
    · rw [u, ← ww' v (by omega), if_neg y]
    · exact w' r r0 (by omega)
  have ev : v = nr + 1 := by omega
  rw [ev] at w'
  (try dsimp only)
  rw [x' 5 (by decide), x3 5 (by decide), e5]
  have el : (k3.length : Int) + 1 - 1 = k3.length := by omega
  have em2 : max (k3.length : Int) 0 = k3.length := by omega
  rw [el, em2]
  obtain ⟨m5, hm5⟩ : ∃ m5, m5 = gh_u m' 5 5 (k3.length : Int) := ⟨_, rfl⟩
  rw [← hm5]
  have x5 : gx [5] m' m5 := by
    rw [hm5]
    exact gx_one _ _ _ _
  have o55 : ∀ y, y ≠ 5 → m5 5 y = m2 5 y := fun y yn => by
    rw [hm5, gh_u_i yn, x' 5 (by decide), x3 5 (by decide)]
  have s55 : m5 5 5 = k3.length := by
    rw [hm5, gh_u_s]
  clear hm5
  have sk5 : go_skc T c m5 ((b2, ps2, a2) :: k3) := go_skc_eq (by rw [x5 11 (by decide), x' 11 (by decide), x3 11 (by decide)]) (by rw [x5 12 (by decide), x' 12 (by decide), x3 12 (by decide)]) _ t3
  refine ⟨by omega, by omega, go_ipush (p := -2000 - md) (by omega) se l4 s55 sk5 (Or.inr (Or.inl ⟨by omega, by omega⟩)) (fun m6 x6 s6 => ?_)⟩
  obtain ⟨m7, hm7⟩ : ∃ m7, m7 = gh_u m6 5 6 1 := ⟨_, rfl⟩
  rw [← hm7]
  have x7 : gx [5] m6 m7 := by
    rw [hm7]
    exact gx_one _ _ _ _
  have o57 : ∀ y, y ≠ 6 → m7 5 y = m5 5 y := fun y yn => by
    rw [hm7, gh_u_i yn, x6 5 (by decide)]
  have s56 : m7 5 6 = 1 := by
    rw [hm7, gh_u_s]
  clear hm7
  have x27 : gx [5, 6, 8, 11, 12] m2 m7 := gx_t (gx_sub x3 (by decide)) (gx_t (gx_sub x' (by decide)) (gx_t (gx_sub x5 (by decide)) (gx_t (gx_sub x6 (by decide)) (gx_sub x7 (by decide)))))
  have e6 : m7 6 = m3 6 := by
    rw [x7 6 (by decide), x6 6 (by decide), x5 6 (by decide), x' 6 (by decide)]
  have e8 : m7 8 = m' 8 := by
    rw [x7 8 (by decide), x6 8 (by decide), x5 8 (by decide)]
  refine H m7 (gx_t (gx_sub x2 (by decide)) (gx_sub x27 (by decide))) (fun y y3 => by rw [o57 y (by omega), o55 y (by omega), o5 y (by omega)]) ⟨⟨by rw [o57 4 (by decide), o55 4 (by decide)]; exact w1, by rw [e6, o63 1 (by decide)]; exact w2, by rw [e6]; exact s62, by rw [e6, o63 3 (by decide)]; exact w4⟩, fun x x0 x1 => by rw [x27 7 (by decide)]; exact w5 x x0 x1, fun r r0 r1' => ?_, fun _ => ⟨?_, go_skc_eq (x7 11 (by decide)) (x7 12 (by decide)) _ (s6 b2 _), s56⟩⟩
  · have r1 : r < nr + 1 := r1'
    obtain ⟨y1, y2, y3⟩ := w6 r r0 r1
    rw [x27 9 (by decide), x27 10 (by decide), e8]
    refine ⟨y1, y2, ?_⟩
    rw [w' r r0 r1]
    have ov : (0 ≤ gm_upd ow nr (100 + b) r ∧ gm_upd ow nr (100 + b) r < nt) ∨ (200 ≤ gm_upd ow nr (100 + b) r ∧ gm_upd ow nr (100 + b) r < 200 + md) ∨ (100 ≤ gm_upd ow nr (100 + b) r ∧ gm_upd ow nr (100 + b) r < 100 + br) := by
      by_cases u : r = nr
      · rw [u, go_upd_s]
        omega
      · rw [go_upd_i u]
        exact (i6 r r0 (by omega)).2.2
    (try dsimp only at y3 ⊢)
    obtain ⟨o, ho⟩ : ∃ o, o = gm_upd ow nr (100 + b) r := ⟨_, rfl⟩
    rw [← ho] at ov y3 ⊢
    clear ho
    obtain ⟨x, hx⟩ : ∃ x, x = m2 8 r := ⟨_, rfl⟩
    rw [← hx] at y3 ⊢
    clear hx
    rcases y3 with y3 | y3 | ⟨b', c0, c1, c2, y3⟩
    · rw [if_neg (by omega)]
      exact Or.inl y3
    · rw [if_neg (by omega)]
      exact Or.inr (Or.inl y3)
    · refine Or.inr (Or.inr ⟨b', c0, c1, c2, ?_⟩)
      by_cases u : b' = b
      · rw [u] at y3
        have nk : ∀ l, ¬ go_lv ((b2, ps2, a2) :: k3) b l := fun l z => by
          have := go_lv_id ((b2, ps2, a2) :: k3) b b l ⟨h1, h2, h3, h4⟩ z
          omega
        rcases y3 with ⟨l, z1, z2⟩ | ⟨z1, _⟩
        · rcases z1 with z1 | z1
          · rw [if_pos (by have := z1.2; omega), u, go_upd_s]
            exact Or.inr ⟨fun l' z => nk l' z, rfl⟩
          · exact absurd z1 (nk l)
        · exact absurd (Or.inl ⟨rfl, rfl⟩) (z1 (((b2, ps2, a2) :: k3 : go_K).length : Int))
      · rw [go_upd_i u]
        rcases y3 with ⟨l, z1, z2⟩ | ⟨z1, z2⟩
        · rcases z1 with z1 | z1
          · exact absurd z1.1.symm u
          · have lb := go_lv_l ((b2, ps2, a2) :: k3) b' l z1
            rw [if_neg (by omega)]
            exact Or.inl ⟨l, z1, z2⟩
        · have mbv := i15 b' c0 (by omega) (fun l z => z1 l z)
          rw [if_neg (by omega)]
          exact Or.inr ⟨fun l z => z1 l (Or.inr z), z2⟩
  · rw [o57 5 (by decide), s55]
    (try dsimp only)
    omega
theorem go_take_rep {T : Int → Int} {c pos nt md nr br ns b a si : Int} {ta ow mb sa : Int → Int} {rl : Int → List Int} {ps : List Int} {k2 : go_K} {m : gh_M} {Q : Int → gh_M → Prop} (iv : go_iv T c pos ((2, nt, md, nr, br, ns), (ta, ow, rl, mb, sa), (b, ps, a) :: k2)) (rc : go_rc T c ((2, nt, md, nr, br, ns), (ta, ow, rl, mb, sa), (b, ps, a) :: k2) m) (e2 : m 3 2 = si) (hs : si = 63 ∨ si = 42 ∨ si = 43) (a0 : a ≠ 0) (n20 : nr + 2 ≤ 20) (n8 : nt + md < 8) (H : ∀ m2, gx [5, 6, 7, 8, 9, 10, 11, 12] m m2 → (∀ y, y < 3 → m2 5 y = m 5 y) → go_rc T c ((2, nt, md + 1, nr + 2, br, ns), (ta, gm_upd (gm_upd ow nr (200 + md)) (nr + 1) (200 + md), go_upl (go_upl rl nr (if si = 42 then [] else ps.take a.toNat)) (nr + 1) (if si = 63 then [] else ps.take a.toNat ++ [-2000 - md]), mb, sa), (b, (-2000 - md) :: ps.drop a.toNat, 0) :: k2) m2 → Q 0 m2) : w_Reader_take m Q := by
  obtain ⟨i1, i2, i3, i4, i5, i6, i7, ⟨i8, i9, i10, i11, i12⟩, i13, i14, i15⟩ := iv
  obtain ⟨⟨r1, r2, r3, r4⟩, r5, r6, r7⟩ := rc
  (try dsimp only at i1 i2 i3 i4 i5 i6 i7 i8 i9 i10 i11 i12 i13 i14 i15 r1 r2 r3 r4 r5 r6 r7)
  obtain ⟨r8, r9, r10⟩ := r7 rfl
  have i2a : 0 ≤ nt ∧ nt ≤ 8 := i2.1
  obtain ⟨⟨q1, q2, q3, q4, q5⟩, q6⟩ := i9
  have se := go_se_big (by omega) q6
  have lc := go_len_cons (x := (b, ps, a)) (k := k2)
  have e5 : m 5 5 = k2.length := by omega
  have e56 : m 5 6 = a := r10
  obtain ⟨t1, t2, t3⟩ := r9
  have lt : ((ps.take a.toNat).length : Int) = a := by
    rw [List.length_take]
    omega
  have ld : ((ps.drop a.toNat).length : Int) = ps.length - a := by
    rw [List.length_drop]
    omega
  have rdt : go_rd (go_cp T c) (m 12) (k2.length * 4 + ps.length - a) (ps.take a.toNat) := by
    have := go_rd_take a.toNat ps (by omega) t2
    have e : (k2.length : Int) * 4 + ((ps.length : Int) - (a.toNat : Int)) = k2.length * 4 + ps.length - a := by omega
    rw [e] at this
    exact this
  unfold w_Reader_take
  refine ⟨fun z => by omega, fun z => by omega, fun z => by omega, fun z => by omega, fun z => by omega, fun z => by omega, fun _ _ _ _ _ _ => ?_⟩
  rw [e2]
  unfold w_Reader_repeat w_Draft_makeName
  rw [r3]
  have em : md + 1 - 1 = md := by omega
  rw [em]
  refine ⟨by omega, by omega, ?_⟩
  obtain ⟨m1, hm1⟩ : ∃ m1, m1 = gh_u m 6 2 (md + 1) := ⟨_, rfl⟩
  rw [← hm1]
  have x1 : gx [6] m m1 := by
    rw [hm1]
    exact gx_one _ _ _ _
  have o61 : ∀ y, y ≠ 2 → m1 6 y = m 6 y := fun y yn => by
    rw [hm1, gh_u_i yn]
  have s62 : m1 6 2 = md + 1 := by
    rw [hm1, gh_u_s]
  clear hm1
  rw [x1 5 (by decide), x1 11 (by decide), e5, t1, e56]
  refine ⟨by omega, by omega, by omega, by omega, by omega, fun v3 hv3 => ?_⟩
  rw [hv3]
  clear hv3 v3
  unfold w_Draft_addMadeRow_12
  rw [if_pos rfl]
  refine ⟨by omega, fun z => absurd rfl z, ?_⟩
  obtain ⟨L1, hL1⟩ : ∃ L1 : List Int, L1 = if si = 42 then [] else ps.take a.toNat := ⟨_, rfl⟩
  have l1 : (L1.length : Int) = if si = 42 then 0 else a := by
    rw [hL1]
    by_cases u : si = 42
    · rw [if_pos u, if_pos u]
      rfl
    · rw [if_neg u, if_neg u]
      exact lt
  have l1b : 0 ≤ (L1.length : Int) ∧ (L1.length : Int) ≤ a := by
    by_cases u : si = 42
    · rw [if_pos u] at l1
      omega
    · rw [if_neg u] at l1
      omega
  have rd1 : go_rd (go_cp T c) (m 12) (k2.length * 4 + ps.length - a) L1 := by
    rw [hL1]
    by_cases u : si = 42
    · rw [if_pos u]
      trivial
    · rw [if_neg u]
      exact rdt
  obtain ⟨L2, hL2⟩ : ∃ L2 : List Int, L2 = if si = 63 then [] else ps.take a.toNat := ⟨_, rfl⟩
  have l2 : (L2.length : Int) = if si = 63 then 0 else a := by
    rw [hL2]
    by_cases u : si = 63
    · rw [if_pos u, if_pos u]
      rfl
    · rw [if_neg u, if_neg u]
      exact lt
  have l2b : 0 ≤ (L2.length : Int) ∧ (L2.length : Int) ≤ a := by
    by_cases u : si = 63
    · rw [if_pos u] at l2
      omega
    · rw [if_neg u] at l2
      omega
  have rd2 : go_rd (go_cp T c) (m 12) (k2.length * 4 + ps.length - a) L2 := by
    rw [hL2]
    by_cases u : si = 63
    · rw [if_pos u]
      trivial
    · rw [if_neg u]
      exact rdt
  rw [← hL1] at H
  refine go_iadd (T := T) (c := c) (nr := nr) (md := md) (L := L1) i4.1 (by omega) (by rw [o61 3 (by decide)]; exact r4) (by rw [l1]) (by rw [if_pos rfl]; omega) (by omega) (by omega) (by rw [x1 12 (by decide)]; exact rd1) 0 (fun z => absurd rfl z) (fun m2 x2 o62 s63 o8 s8 o9 s9 o10 w10 => ?_)
  rw [if_pos rfl] at s9 w10
  rw [x2 5 (by decide), x1 5 (by decide), e56]
  have x12 : gx [6, 8, 9, 10] m m2 := gx_t (gx_sub x1 (by decide)) x2
  obtain ⟨ah, hah⟩ : ∃ ah : Int, ah = if (if ¬ si = 63 then (1 : Int) else 0) = 0 then 0 else -1 - md := ⟨_, rfl⟩
  have ah0 : (si = 63 → ah = 0) ∧ (si ≠ 63 → ah = -1 - md) := by
    rw [hah]
    refine ⟨fun u => ?_, fun u => ?_⟩
    · have e : (if ¬ si = 63 then (1 : Int) else 0) = 0 := if_neg (fun z => z u)
      rw [e, if_pos rfl]
    · have e : (if ¬ si = 63 then (1 : Int) else 0) = 1 := if_pos u
      rw [e, if_neg (by decide)]
  rw [← hah]
  clear hah
  refine ⟨by omega, fun _ => by omega, ?_⟩
  refine go_iadd (T := T) (c := c) (nr := nr + 1) (md := md) (L := L2) (by omega) (by omega) s63 (by rw [l2]) ?_ (by omega) (by omega) (by rw [x12 12 (by decide)]; exact rd2) (-2000 - md) (fun z => Or.inr (Or.inl ⟨by omega, ?_⟩)) (fun m3 x3 o63 s63' o8' s8' o9' s9' o10' w10' => ?_)
  · by_cases u : ah = 0
    · rw [if_pos u]
      omega
    · rw [if_neg u]
      omega
  · have := ah0.2 (fun u => z (ah0.1 u))
    omega
  have eL : (if ah = 0 then L2 else L2 ++ [-2000 - md]) = if si = 63 then [] else ps.take a.toNat ++ [-2000 - md] := by
    by_cases u : si = 63
    · rw [if_pos (ah0.1 u), if_pos u, hL2, if_pos u]
    · have := ah0.2 u
      rw [if_neg (by omega), if_neg u, hL2, if_neg u]
  rw [eL] at s9' w10'
  obtain ⟨L3, hL3⟩ : ∃ L3 : List Int, L3 = if si = 63 then [] else ps.take a.toNat ++ [-2000 - md] := ⟨_, rfl⟩
  rw [← hL3] at H s9' w10'
  have x13 : gx [6, 8, 9, 10] m m3 := gx_t x12 x3
  (try dsimp only)
  rw [x13 5 (by decide), x13 11 (by decide), e5, t1, e56]
  obtain ⟨m4, hm4⟩ : ∃ m4, m4 = gh_u m3 11 (k2.length : Int) ((ps.length : Int) - a) := ⟨_, rfl⟩
  rw [← hm4]
  have x4 : gx [11] m3 m4 := by
    rw [hm4]
    exact gx_one _ _ _ _
  have o11 : ∀ x, x ≠ (k2.length : Int) → m4 11 x = m 11 x := fun x xn => by
    rw [hm4, gh_u_i xn, x13 11 (by decide)]
  have s11 : m4 11 (k2.length : Int) = ps.length - a := by
    rw [hm4, gh_u_s]
  clear hm4
  refine ⟨by omega, by omega, by omega, by omega, by omega, by omega, ?_⟩
  have sk4 : go_skc T c m4 ((b, ps.drop a.toNat, a) :: k2) := by
    refine ⟨by rw [s11, ld], ?_, go_skc_cg k2 se (fun x x0 x1 => o11 x (by omega)) (fun x x0 x1 => by rw [x4 12 (by decide), x13 12 (by decide)]) t3⟩
    rw [x4 12 (by decide), x13 12 (by decide)]
    exact go_rd_drop a.toNat ps t2
  refine go_ipush (p := -2000 - md) (by omega) se (by omega) (by rw [x4 5 (by decide), x13 5 (by decide)]; exact e5) sk4 (Or.inr (Or.inl ⟨by omega, by omega⟩)) (fun m6 x6 s6 => ?_)
  obtain ⟨m7, hm7⟩ : ∃ m7, m7 = gh_u m6 5 6 0 := ⟨_, rfl⟩
  rw [← hm7]
  have x7 : gx [5] m6 m7 := by
    rw [hm7]
    exact gx_one _ _ _ _
  have x47 : gx [11, 12, 5] m3 m7 := gx_t (gx_sub x4 (by decide)) (gx_t (gx_sub x6 (by decide)) (gx_sub x7 (by decide)))
  have o57 : ∀ y, y ≠ 6 → m7 5 y = m 5 y := fun y yn => by
    rw [hm7, gh_u_i yn, x6 5 (by decide), x4 5 (by decide), x13 5 (by decide)]
  have s56 : m7 5 6 = 0 := by
    rw [hm7, gh_u_s]
  clear hm7
  have e6 : ∀ y, y ≠ 3 → m7 6 y = m1 6 y := fun y yn => by
    rw [x47 6 (by decide), o63 y yn, o62 y yn]
  refine H m7 (gx_t (gx_sub x13 (by decide)) (gx_sub x47 (by decide))) (fun y y3 => o57 y (by omega)) ⟨⟨by rw [o57 4 (by decide)]; exact r1, by rw [e6 1 (by decide), o61 1 (by decide)]; exact r2, by rw [e6 2 (by decide)]; exact s62, by rw [x47 6 (by decide), s63']; (try dsimp only); omega⟩, fun x x0 x1' => by rw [x47 7 (by decide), x13 7 (by decide)]; exact r5 x x0 x1', fun r r0 r1' => ?_, fun _ => ⟨?_, go_skc_eq (x7 11 (by decide)) (x7 12 (by decide)) _ (s6 b _), s56⟩⟩
  · have r2' : r < nr + 2 := r1'
    rw [x47 9 (by decide), x47 10 (by decide), x47 8 (by decide)]
    (try dsimp only)
    by_cases u : r = nr + 1
    · rw [u, go_upl_s, go_upd_s, s9', s8']
      exact ⟨rfl, w10', Or.inr (Or.inl ⟨by omega, by omega⟩)⟩
    · rw [go_upl_i u, go_upd_i u, o9' r u, o8' r u]
      have mv : ∀ (L : List Int), L.length ≤ 4 → go_rd (go_cp T c) (m2 10) (r * 4) L → go_rd (go_cp T c) (m3 10) (r * 4) L := fun L hl => go_rd_mv L (fun x x0 x1' => o10' _ (by omega))
      by_cases v : r = nr
      · rw [v, go_upl_s, go_upd_s, s9, s8]
        rw [v] at mv
        exact ⟨rfl, mv L1 (by omega) w10, Or.inr (Or.inl ⟨by omega, by omega⟩)⟩
      · rw [go_upl_i v, go_upd_i v, o9 r v, o8 r v, x1 9 (by decide), x1 8 (by decide)]
        obtain ⟨y1, y2, y3⟩ := r6 r r0 (by omega)
        have y4 := (i6 r r0 (by omega)).1
        refine ⟨y1, mv _ y4 (go_rd_mv _ (fun x x0 x1' => ?_) y2), go_oc_sk (fun _ _ => Iff.rfl) y3⟩
        rw [o10 _ (by omega), x1 10 (by decide)]
  · rw [o57 5 (by decide), e5]
    have := go_len_cons (x := (b, (-2000 - md) :: ps.drop a.toNat, (0 : Int))) (k := k2)
    (try dsimp only)
    omega
/-- a token that may stand is taken -/
theorem go_take {T : Int → Int} {c pos pl kd si e : Int} {S : go_S} {m : gh_M} {Q : Int → gh_M → Prop} (ct : gr_ct T c m) (iv : go_iv T c pos S) (rc : go_rc T c S m) (pl0 : 0 ≤ pl) (plc : pl ≤ c) (ple : pl ≤ e) (e240 : e ≤ 1000) (kr : 0 ≤ kd ∧ kd ≤ 5) (tk : gr_tok T c pl kd si e) (e2 : m 3 2 = gr_ck kd si) (e3 : m 3 3 = pl) (e4 : m 3 4 = e) (f : (go_act T c S pl kd si e).1 = 0) (H : ∀ m2, gx [5, 6, 7, 8, 9, 10, 11, 12] m m2 → (∀ y, y < 3 → m2 5 y = m 5 y) → go_rc T c (go_act T c S pl kd si e).2 m2 → Q 0 m2) : w_Reader_take m Q := by
  obtain ⟨⟨st, nt, md, nr, br, ns⟩, ⟨ta, ow, rl, mb, sa⟩, sk⟩ := S
  have ivc := iv
  obtain ⟨i1, i2, i3, i4, i5, i6, i7, ⟨i8, i9, i10, i11, i12⟩, i13, i14, i15⟩ := ivc
  (try dsimp only at i1 i2 i3 i4 i5 i6 i7 i8 i9 i10 i11 i12 i13 i14 i15)
  have i2a : 0 ≤ nt ∧ nt ≤ 8 := i2.1
  unfold go_act at f H
  (try dsimp only at f H)
  by_cases k0 : kd = 0
  · rw [if_pos k0] at f
    exact (go_no f (by decide)).elim
  rw [if_neg k0] at f H
  by_cases s0 : st = 0
  · rw [if_pos s0] at f H
    by_cases k2 : kd = 2
    · rw [if_pos k2] at f H
      by_cases hs : gr_has T c nt ta pl
      · rw [if_pos hs] at f
        exact (go_no f (by decide)).elim
      rw [if_neg hs] at f H
      by_cases n8 : nt + md = 8
      · rw [if_pos n8] at f
        exact (go_no f (by decide)).elim
      rw [if_neg n8] at f H
      rw [s0] at iv rc
      rw [k2] at tk e2
      exact go_take_name ct iv rc pl0 tk e2 e3 e4 (by omega) H
    · rw [if_neg k2] at f
      exact (go_no f (by decide)).elim
  rw [if_neg s0] at f H
  by_cases s1 : st = 1
  · rw [if_pos s1] at f H
    by_cases c5 : kd = 5 ∧ si = 58
    · rw [if_pos c5] at f H
      rw [s1] at iv rc
      rw [c5.1, c5.2] at e2
      exact go_take_colon iv rc e2 H
    · rw [if_neg c5] at f
      exact (go_no f (by decide)).elim
  rw [if_neg s1] at f H
  have s2 : st = 2 := by omega
  rw [s2] at iv rc
  cases sk with
  | nil => exact absurd rfl (i11 s2)
  | cons x k2 =>
    obtain ⟨b, ps, a⟩ := x
    (try dsimp only at f H)
    unfold go_row at f H
    (try dsimp only at f H)
    by_cases w : kd = 2 ∨ kd = 3 ∨ kd = 4
    · rw [if_pos w] at f H
      by_cases w4 : 4 < (ps.length : Int) + go_w kd pl e
      · rw [if_pos w4] at f
        exact (go_no f (by decide)).elim
      rw [if_neg w4] at f H
      exact go_take_word ct iv rc pl0 plc ple e240 tk e2 e3 e4 w (by omega) H
    rw [if_neg w] at f H
    by_cases w5 : kd ≠ 5 ∨ si = 58
    · rw [if_pos w5] at f
      exact (go_no f (by decide)).elim
    rw [if_neg w5] at f H
    have k5 : kd = 5 := by omega
    rw [k5] at e2 tk
    have mk := gr_tok_mark tk
    have e32 : m 3 2 = si := e2
    by_cases q40 : si = 40
    · rw [if_pos q40] at f H
      by_cases l3 : k2.length = 3
      · rw [if_pos l3] at f
        exact (go_no f (by decide)).elim
      rw [if_neg l3] at f H
      exact go_take_open iv rc (by omega) l3 H
    rw [if_neg q40] at f H
    by_cases q41 : si = 41
    · rw [if_pos q41] at f H
      cases k2 with
      | nil => exact (go_no f (by decide)).elim
      | cons x2 k3 =>
        obtain ⟨b2, ps2, a2⟩ := x2
        (try dsimp only at f H)
        have g4 := i9.2.1.1
        by_cases r3 : nr = 20 ∨ nt + md = 8 ∨ ps2.length = 4
        · rw [if_pos r3] at f
          exact (go_no f (by decide)).elim
        rw [if_neg r3] at f H
        exact go_take_close iv rc (by omega) (by omega) (by omega) (by omega) H
    rw [if_neg q41] at f H
    by_cases qe : si = 124 ∨ si = 59
    · rw [if_pos qe] at f H
      by_cases q59 : si = 59 ∧ k2 ≠ []
      · rw [if_pos q59] at f
        exact (go_no f (by decide)).elim
      rw [if_neg q59] at f H
      by_cases r3 : nr = 20
      · rw [if_pos r3] at f
        exact (go_no f (by decide)).elim
      rw [if_neg r3] at f H
      exact go_take_end iv rc e32 qe (by omega) H
    rw [if_neg qe] at f H
    by_cases a0 : a = 0
    · rw [if_pos a0] at f
      exact (go_no f (by decide)).elim
    rw [if_neg a0] at f H
    by_cases r3 : nt + md = 8 ∨ 20 < nr + 2
    · rw [if_pos r3] at f
      exact (go_no f (by decide)).elim
    rw [if_neg r3] at f H
    unfold gr_mark at mk
    exact go_take_rep iv rc e32 (by omega) a0 (by omega) (by omega) H

