/-! READING: the class takes a token -/
theorem go_oc_sk {sk sk2 : go_K} {mb : Int → Int} {o x : Int} (h : ∀ b l, go_lv sk b l ↔ go_lv sk2 b l) (w : go_oc sk mb o x) : go_oc sk2 mb o x := by
  rcases w with w | w | ⟨b, b0, b1, b2, w⟩
  · exact Or.inl w
  · exact Or.inr (Or.inl w)
  · refine Or.inr (Or.inr ⟨b, b0, b1, b2, ?_⟩)
    rcases w with ⟨l, y1, y2⟩ | ⟨y1, y2⟩
    · exact Or.inl ⟨l, (h b l).mp y1, y2⟩
    · exact Or.inr ⟨fun l z => y1 l ((h b l).mpr z), y2⟩
theorem go_se_big {T : Int → Int} {c md : Int} (h : md ≤ 8) {k : go_K} (w : go_se T c md k) : go_se T c 1000000 k := go_se_up (by omega) k w
/-- a row ends: it is one of its owner -/
theorem go_iendRow {T : Int → Int} {c st nt md nr br ns b a : Int} {ta ow mb sa : Int → Int} {rl : Int → List Int} {ps : List Int} {k : go_K} {m : gh_M} {Q : Int → gh_M → Prop} (iv : ∃ pos, go_iv T c pos ((st, nt, md, nr, br, ns), (ta, ow, rl, mb, sa), (b, ps, a) :: k)) (rc : go_rc T c ((st, nt, md, nr, br, ns), (ta, ow, rl, mb, sa), (b, ps, a) :: k) m) (s2 : st = 2) (r20 : nr < 20) (H : ∀ m2, gx [5, 6, 8, 9, 10, 11] m m2 → (∀ y, y ≠ 6 → m2 5 y = m 5 y) → (∀ y, y ≠ 3 → m2 6 y = m 6 y) → go_rc T c ((st, nt, md, nr + 1, br, ns), (ta, gm_upd ow nr (if k = [] then nt - 1 else 100 + b), go_upl rl nr ps, mb, sa), (b, [], 0) :: k) m2 → Q 0 m2) : w_Reader_endRow m Q := by
  obtain ⟨pos, i1, i2, i3, i4, i5, i6, i7, ⟨i8, i9, i10, i11, i12⟩, i13, i14, i15⟩ := iv
  obtain ⟨⟨r1, r2, r3, r4⟩, r5, r6, r7⟩ := rc
  (try dsimp only at i1 i2 i3 i4 i5 i6 i7 i8 i9 i10 i11 i12 i13 i14 i15 r1 r2 r3 r4 r5 r6 r7)
  obtain ⟨r8, ⟨t1, t2, t3⟩, r10⟩ := r7 s2
  obtain ⟨⟨q1, q2, q3, q4, q5⟩, q6⟩ := i9
  obtain ⟨d1, d2, d3, d4⟩ := i10
  have lc := go_len_cons (x := (b, ps, a)) (k := k)
  have e5 : m 5 5 = k.length := by omega
  have n1 := i13 (by omega)
  have i2a : 0 ≤ nt ∧ nt ≤ 8 := i2.1
  unfold w_Reader_endRow w_Draft_addRow_12
  rw [e5, t1, r2]
  refine ⟨by omega, by omega, by omega, ⟨fun _ => by omega, fun _ => by omega⟩, ?_⟩
  refine go_add (nr := nr) i4.1 r20 r4 (by omega) (by rw [if_pos rfl]; omega) (by omega) (by omega) (fun m2 x2 o6 s6 o8 s8 o9 s9 o10 _ w10 => ?_)
  rw [if_pos rfl] at s9 w10
  unfold w_Reader_startRow
  rw [x2 5 (by decide), e5]
  refine ⟨by omega, by omega, ?_⟩
  obtain ⟨m3, hm3⟩ : ∃ m3, m3 = gh_u (gh_u m2 11 (k.length : Int) 0) 5 6 0 := ⟨_, rfl⟩
  rw [← hm3]
  have x3 : gx [5, 11] m2 m3 := by
    rw [hm3]
    exact gx_u (gx_u gx_rf (by decide)) (by decide)
  have o5 : ∀ y, y ≠ 6 → m3 5 y = m 5 y := fun y yn => by
    rw [hm3, gh_u_i yn, gh_u_a (by decide), x2 5 (by decide)]
  have s56 : m3 5 6 = 0 := by
    rw [hm3, gh_u_s]
  have o11 : ∀ x, x ≠ (k.length : Int) → m3 11 x = m 11 x := fun x xn => by
    rw [hm3, gh_u_a (by decide), gh_u_i xn, x2 11 (by decide)]
  have s11 : m3 11 (k.length : Int) = 0 := by
    rw [hm3, gh_u_a (by decide), gh_u_s]
  clear hm3
  refine H m3 (gx_t (gx_sub x2 (by decide)) (gx_sub x3 (by decide))) o5 (fun y yn => by rw [x3 6 (by decide)]; exact o6 y yn) ?_
  have lv : ∀ b' l, go_lv ((b, ps, a) :: k) b' l ↔ go_lv ((b, ([] : List Int), (0 : Int)) :: k) b' l := fun _ _ => Iff.rfl
  refine ⟨⟨by rw [o5 4 (by decide)]; exact r1, by rw [x3 6 (by decide), o6 1 (by decide)]; exact r2, by rw [x3 6 (by decide), o6 2 (by decide)]; exact r3, by rw [x3 6 (by decide)]; exact s6⟩, fun x x0 x1 => by rw [x3 7 (by decide), x2 7 (by decide)]; exact r5 x x0 x1, fun r r0 r1 => ?_, fun _ => ⟨?_, ⟨s11, trivial, go_skc_cg k (go_se_big (by omega) q6) (fun x x0 x1 => o11 x (by omega)) (fun x x0 x1 => by rw [x3 12 (by decide), x2 12 (by decide)]) t3⟩, s56⟩⟩
  · (try dsimp only at r1 ⊢)
    rw [x3 9 (by decide), x3 10 (by decide), x3 8 (by decide)]
    by_cases u : r = nr
    · rw [u, go_upl_s, go_upd_s, s9, s8]
      refine ⟨by omega, go_rd_mv ps (fun x x0 x1 => ?_) t2, ?_⟩
      · have := w10 x x0 x1
        have e : nr * 4 + 0 + x = nr * 4 + x := by omega
        rw [e] at this
        exact this
      · by_cases w : k = []
        · rw [if_pos w, w]
          rw [if_pos (show ((([] : go_K).length : Nat) : Int) = 0 from rfl)]
          exact Or.inl ⟨by omega, rfl⟩
        · have kl : k.length ≠ 0 := fun z => w (List.eq_nil_of_length_eq_zero z)
          rw [if_neg w, if_neg (by omega)]
          exact Or.inr (Or.inr ⟨b, d3.mpr w, by omega, rfl, Or.inl ⟨k.length, Or.inl ⟨rfl, rfl⟩, rfl⟩⟩)
    · rw [go_upl_i u, go_upd_i u, o9 r u, o8 r u]
      obtain ⟨y1, y2, y3⟩ := r6 r r0 (by omega)
      have y4 := (i6 r r0 (by omega)).1
      exact ⟨y1, go_rd_mv _ (fun x x0 x1 => o10 _ (by omega)) y2, go_oc_sk lv y3⟩
  · rw [o5 5 (by decide)]
    exact r8
theorem go_iadd {T : Int → Int} {c nr md ahead n : Int} {L : List Int} {whose f : Int} {m : gh_M} {Q : Int → gh_M → Prop} (r0 : 0 ≤ nr) (r20 : nr < 20) (e3 : m 6 3 = nr) (hn : n = L.length) (hL : (if ahead = 0 then 0 else 1) + (L.length : Int) ≤ 4) (f0 : 0 ≤ f) (f16 : f + L.length ≤ 16) (rd : go_rd (go_cp T c) (m 12) f L) (p : Int) (cp : ahead ≠ 0 → go_cp T c p ahead) (H : ∀ m2, gx [6, 8, 9, 10] m m2 → (∀ y, y ≠ 3 → m2 6 y = m 6 y) → m2 6 3 = nr + 1 → (∀ x, x ≠ nr → m2 8 x = m 8 x) → m2 8 nr = whose → (∀ x, x ≠ nr → m2 9 x = m 9 x) → m2 9 nr = ((if ahead = 0 then L else L ++ [p]).length : Int) → (∀ x, x < nr * 4 → m2 10 x = m 10 x) → go_rd (go_cp T c) (m2 10) (nr * 4) (if ahead = 0 then L else L ++ [p]) → Q 0 m2) : w_Draft_add_12 whose ahead f n m Q := by
  rw [hn]
  refine go_add (nr := nr) r0 r20 e3 (by omega) hL f0 f16 (fun m2 x2 o6 s6 o8 s8 o9 s9 o10 a10 w10 => H m2 x2 o6 s6 o8 s8 o9 ?_ o10 ?_)
  · rw [s9]
    by_cases u : ahead = 0
    · rw [if_pos u, if_pos u]
      omega
    · rw [if_neg u, if_neg u, List.length_append]
      show 1 + (L.length : Int) = ((L.length + 1 : Nat) : Int)
      omega
  · by_cases u : ahead = 0
    · rw [if_pos u] at w10 ⊢
      refine go_rd_mv L (fun x x0 x1 => ?_) rd
      have := w10 x x0 x1
      have e : nr * 4 + 0 + x = nr * 4 + x := by omega
      rw [e] at this
      exact this
    · rw [if_neg u] at w10 ⊢
      refine go_rd_snoc L (by rw [a10 u]; exact cp u) (go_rd_mv L (fun x x0 x1 => w10 x x0 x1) rd)
theorem go_skc_eq {T : Int → Int} {c : Int} {m m2 : gh_M} (e11 : m2 11 = m 11) (e12 : m2 12 = m 12) : ∀ k : go_K, go_skc T c m k → go_skc T c m2 k
  | [], _ => trivial
  | (b, ps, a) :: k, ⟨h1, h2, h3⟩ => ⟨by rw [e11]; exact h1, by rw [e12]; exact h2, go_skc_eq e11 e12 k h3⟩
theorem go_oc_b {sk sk2 : go_K} {mb : Int → Int} {o x br : Int} (ob : o < 200 → o < 100 + br) (h : ∀ b l, 0 ≤ b → b < br → (go_lv sk b l ↔ go_lv sk2 b l)) (w : go_oc sk mb o x) : go_oc sk2 mb o x := by
  rcases w with w | w | ⟨b, b0, b1, b2, w⟩
  · exact Or.inl w
  · exact Or.inr (Or.inl w)
  · have bb : b < br := by omega
    refine Or.inr (Or.inr ⟨b, b0, b1, b2, ?_⟩)
    rcases w with ⟨l, y1, y2⟩ | ⟨y1, y2⟩
    · exact Or.inl ⟨l, (h b l b0 bb).mp y1, y2⟩
    · exact Or.inr ⟨fun l z => y1 l ((h b l b0 bb).mpr z), y2⟩
theorem go_take_name {T : Int → Int} {c pos pl si e nt md nr br ns : Int} {ta ow mb sa : Int → Int} {rl : Int → List Int} {sk : go_K} {m : gh_M} {Q : Int → gh_M → Prop} (ct : gr_ct T c m) (iv : go_iv T c pos ((0, nt, md, nr, br, ns), (ta, ow, rl, mb, sa), sk)) (rc : go_rc T c ((0, nt, md, nr, br, ns), (ta, ow, rl, mb, sa), sk) m) (pl0 : 0 ≤ pl) (tk : gr_tok T c pl 2 si e) (e2 : m 3 2 = 1) (e3 : m 3 3 = pl) (e4 : m 3 4 = e) (n8 : nt < 8) (H : ∀ m2, gx [5, 6, 7, 8, 9, 10, 11, 12] m m2 → (∀ y, y < 3 → m2 5 y = m 5 y) → go_rc T c ((1, nt + 1, md, nr, br, ns), (gm_upd ta nt pl, ow, rl, mb, sa), sk) m2 → Q 0 m2) : w_Reader_take m Q := by
  obtain ⟨i1, i2, i3, i4, i5, i6, i7, ⟨i8, i9, i10, i11, i12⟩, i13, i14, i15⟩ := iv
  obtain ⟨⟨r1, r2, r3, r4⟩, r5, r6, r7⟩ := rc
  (try dsimp only at i1 i2 i3 i4 i5 i6 i7 i8 i9 i10 i11 i12 i13 i14 i15 r1 r2 r3 r4 r5 r6 r7)
  have i2a : 0 ≤ nt ∧ nt ≤ 8 := i2.1
  obtain ⟨d, hd, he⟩ := gr_tok_nm pl0 tk
  unfold w_Reader_take
  rw [e2]
  refine ⟨fun _ => ?_, fun z => absurd z (by decide), fun z => absurd z (by decide), fun z => absurd z (by decide), fun z => absurd z (by decide), fun z => absurd z (by decide), fun z => absurd (Or.inl rfl) z⟩
  unfold w_Reader_takeWord
  refine ⟨fun _ => gr_key ct hd e3 (by omega) ?_, fun z => absurd r1 z⟩
  unfold w_Draft_tell
  rw [r2]
  refine ⟨fun _ => ⟨by omega, n8, by omega, ?_⟩, fun z => absurd n8 z⟩
  obtain ⟨m3, hm3⟩ : ∃ m3, m3 = gh_u (gh_u (gh_u m 7 nt (gr_kf T d pl)) 6 1 (nt + 1)) 5 4 1 := ⟨_, rfl⟩
  rw [← hm3]
  have x3 : gx [5, 6, 7] m m3 := by
    rw [hm3]
    exact gx_u (gx_u (gx_u gx_rf (by decide)) (by decide)) (by decide)
  have o5 : ∀ y, y ≠ 4 → m3 5 y = m 5 y := fun y yn => by
    rw [hm3, gh_u_i yn, gh_u_a (by decide), gh_u_a (by decide)]
  have s54 : m3 5 4 = 1 := by
    rw [hm3, gh_u_s]
  have o6 : ∀ y, y ≠ 1 → m3 6 y = m 6 y := fun y yn => by
    rw [hm3, gh_u_a (by decide), gh_u_i yn, gh_u_a (by decide)]
  have s61 : m3 6 1 = nt + 1 := by
    rw [hm3, gh_u_a (by decide), gh_u_s]
  have o7 : ∀ y, y ≠ nt → m3 7 y = m 7 y := fun y yn => by
    rw [hm3, gh_u_a (by decide), gh_u_a (by decide), gh_u_i yn]
  have s7 : m3 7 nt = gr_kf T d pl := by
    rw [hm3, gh_u_a (by decide), gh_u_a (by decide), gh_u_s]
  clear hm3
  refine H m3 (gx_sub x3 (by decide)) (fun y y3 => o5 y (by omega)) ⟨⟨s54, s61, by rw [o6 2 (by decide)]; exact r3, by rw [o6 3 (by decide)]; exact r4⟩, fun x x0 x1 => ?_, fun r r0 r1' => ?_, fun z => absurd (show (1 : Int) = 2 from z) (by decide)⟩
  · have x1' : x < nt + 1 := x1
    show gr_kof T c (gm_upd ta nt pl x) (m3 7 x)
    by_cases u : x = nt
    · rw [u, go_upd_s, s7]
      exact ⟨d, hd, rfl⟩
    · rw [go_upd_i u, o7 x u]
      exact r5 x x0 (by omega)
  · rw [x3 9 (by decide), x3 10 (by decide), x3 8 (by decide)]
    exact r6 r r0 r1'
theorem go_take_colon {T : Int → Int} {c pos nt md nr br ns : Int} {ta ow mb sa : Int → Int} {rl : Int → List Int} {sk : go_K} {m : gh_M} {Q : Int → gh_M → Prop} (iv : go_iv T c pos ((1, nt, md, nr, br, ns), (ta, ow, rl, mb, sa), sk)) (rc : go_rc T c ((1, nt, md, nr, br, ns), (ta, ow, rl, mb, sa), sk) m) (e2 : m 3 2 = 58) (H : ∀ m2, gx [5, 6, 7, 8, 9, 10, 11, 12] m m2 → (∀ y, y < 3 → m2 5 y = m 5 y) → go_rc T c ((2, nt, md, nr, br, ns), (ta, ow, rl, mb, sa), [(-1, [], 0)]) m2 → Q 0 m2) : w_Reader_take m Q := by
  obtain ⟨i1, i2, i3, i4, i5, i6, i7, ⟨i8, i9, i10, i11, i12⟩, i13, i14, i15⟩ := iv
  obtain ⟨⟨r1, r2, r3, r4⟩, r5, r6, r7⟩ := rc
  (try dsimp only at i1 i2 i3 i4 i5 i6 i7 i8 i9 i10 i11 i12 i13 i14 i15 r1 r2 r3 r4 r5 r6 r7)
  have i2a : 0 ≤ nt ∧ nt ≤ 8 := i2.1
  have l1 := i12 (by decide)
  unfold w_Reader_take
  rw [e2]
  refine ⟨fun z => by omega, fun z => absurd z (by decide), fun z => absurd z (by decide), fun _ => ?_, fun z => absurd z (by decide), fun z => absurd z (by decide), fun _ _ _ z => absurd rfl z⟩
  unfold w_Reader_startRow
  rw [gh_u_s]
  refine ⟨by decide, by decide, ?_⟩
  obtain ⟨m3, hm3⟩ : ∃ m3, m3 = gh_u (gh_u (gh_u (gh_u m 5 4 2) 5 5 0) 11 0 0) 5 6 0 := ⟨_, rfl⟩
  rw [← hm3]
  have x3 : gx [5, 11] m m3 := by
    rw [hm3]
    exact gx_u (gx_u (gx_u (gx_u gx_rf (by decide)) (by decide)) (by decide)) (by decide)
  have o5 : ∀ y, y < 4 → m3 5 y = m 5 y := fun y yn => by
    rw [hm3, gh_u_i (by omega), gh_u_a (by decide), gh_u_i (by omega), gh_u_i (by omega)]
  have s54 : m3 5 4 = 2 := by
    rw [hm3, gh_u_i (by decide), gh_u_a (by decide), gh_u_i (by decide), gh_u_s]
  have s55 : m3 5 5 = 0 := by
    rw [hm3, gh_u_i (by decide), gh_u_a (by decide), gh_u_s]
  have s56 : m3 5 6 = 0 := by
    rw [hm3, gh_u_s]
  have s11 : m3 11 0 = 0 := by
    rw [hm3, gh_u_a (by decide), gh_u_s]
  clear hm3
  have no : ∀ b l, 0 ≤ b → ¬ go_lv sk b l := fun b l b0 => by
    cases sk with
    | nil => exact id
    | cons x k => exact go_lv_0 (by omega) i10 b0
  refine H m3 (gx_sub x3 (by decide)) (fun y y3 => o5 y (by omega)) ⟨⟨s54, by rw [x3 6 (by decide)]; exact r2, by rw [x3 6 (by decide)]; exact r3, by rw [x3 6 (by decide)]; exact r4⟩, fun x x0 x1 => by rw [x3 7 (by decide)]; exact r5 x x0 x1, fun r r0 r1' => ?_, fun _ => ⟨s55, ⟨s11, trivial, trivial⟩, s56⟩⟩
  rw [x3 9 (by decide), x3 10 (by decide), x3 8 (by decide)]
  obtain ⟨y1, y2, y3⟩ := r6 r r0 r1'
  refine ⟨y1, y2, go_oc_b (br := 100) (fun z => by omega) (fun b l b0 _ => ⟨fun z => absurd z (no b l b0), fun z => ?_⟩) y3⟩
  rcases z with z | z
  · have := z.1
    omega
  · exact False.elim z
theorem go_take_word {T : Int → Int} {c pos pl kd si e nt md nr br ns ns2 b a : Int} {ta ow mb sa sa2 : Int → Int} {rl : Int → List Int} {ps : List Int} {k2 : go_K} {m : gh_M} {Q : Int → gh_M → Prop} (ct : gr_ct T c m) (iv : go_iv T c pos ((2, nt, md, nr, br, ns), (ta, ow, rl, mb, sa), (b, ps, a) :: k2)) (rc : go_rc T c ((2, nt, md, nr, br, ns), (ta, ow, rl, mb, sa), (b, ps, a) :: k2) m) (pl0 : 0 ≤ pl) (plc : pl ≤ c) (ple : pl ≤ e) (e240 : e ≤ 1000) (tk : gr_tok T c pl kd si e) (e2 : m 3 2 = gr_ck kd si) (e3 : m 3 3 = pl) (e4 : m 3 4 = e) (w : kd = 2 ∨ kd = 3 ∨ kd = 4) (w4 : (ps.length : Int) + go_w kd pl e ≤ 4) (H : ∀ m2, gx [5, 6, 7, 8, 9, 10, 11, 12] m m2 → (∀ y, y < 3 → m2 5 y = m 5 y) → go_rc T c ((2, nt, md, nr, br, ns2), (ta, ow, rl, mb, sa2), (b, go_new T kd pl (go_w kd pl e) ++ ps, go_w kd pl e) :: k2) m2 → Q 0 m2) : w_Reader_take m Q := by
  obtain ⟨i1, i2, i3, i4, i5, i6, i7, ⟨i8, i9, i10, i11, i12⟩, i13, i14, i15⟩ := iv
  obtain ⟨⟨r1, r2, r3, r4⟩, r5, r6, r7⟩ := rc
  (try dsimp only at i1 i2 i3 i4 i5 i6 i7 i8 i9 i10 i11 i12 i13 i14 i15 r1 r2 r3 r4 r5 r6 r7)
  have i2a : 0 ≤ nt ∧ nt ≤ 8 := i2.1
  have c240 := ct.2.2.1
  obtain ⟨r8, r9, r10⟩ := r7 rfl
  obtain ⟨⟨q1, q2, q3, q4, q5⟩, q6⟩ := i9
  have se := go_se_big (by omega) q6
  have lc := go_len_cons (x := (b, ps, a)) (k := k2)
  have e5 : m 5 5 = k2.length := by omega
  obtain ⟨n1, n2, n3⟩ := go_new_v (md := md) pl0 tk w
  have e32 : (kd = 2 → m 3 2 = 1) ∧ (kd = 3 → m 3 2 = 2) ∧ (kd = 4 → m 3 2 = 3) := by
    rw [e2]
    exact ⟨fun y => by rw [y]; rfl, fun y => by rw [y]; rfl, fun y => by rw [y]; rfl⟩
  have wid : ∀ m', gx [11, 12] m m' → k_Tape_width m' ∧ x_Tape_width m' = go_w kd pl e := fun m' x' => by
    unfold k_Tape_width x_Tape_width go_w
    rw [x' 3 (by decide), e3, e4]
    refine ⟨fun _ => by omega, ?_⟩
    by_cases u : kd = 3
    · rw [if_pos (e32.2.1 u), if_pos u]
    · rw [if_neg u, if_neg (fun z => by omega)]
  unfold w_Reader_take
  refine ⟨fun _ => ?_, fun z => by omega, fun z => by omega, fun z => by omega, fun z => by omega, fun z => by omega, fun z => absurd (by omega) z⟩
  unfold w_Reader_takeWord
  refine ⟨fun z => by omega, fun _ => ⟨fun m' => gx [11, 12] m m' ∧ ∀ b a : Int, go_skc T c m' ((b, go_new T kd pl (go_w kd pl e) ++ ps, a) :: k2), fun m' ⟨x', s'⟩ => ⟨(wid m' x').1, ?_⟩, fun z => ?_, fun z => ⟨fun z3 => ?_, fun z3 => ?_⟩⟩⟩
  · rw [(wid m' x').2]
    obtain ⟨m3, hm3⟩ : ∃ m3, m3 = gh_u m' 5 6 (go_w kd pl e) := ⟨_, rfl⟩
    rw [← hm3]
    have x3 : gx [5] m' m3 := by
      rw [hm3]
      exact gx_one _ _ _ _
    have o5 : ∀ y, y ≠ 6 → m3 5 y = m 5 y := fun y yn => by
      rw [hm3, gh_u_i yn, x' 5 (by decide)]
    have s56 : m3 5 6 = go_w kd pl e := by
      rw [hm3, gh_u_s]
    clear hm3
    refine H m3 (gx_t (gx_sub x' (by decide)) (gx_sub x3 (by decide))) (fun y y3 => o5 y (by omega)) ⟨⟨by rw [o5 4 (by decide)]; exact r1, by rw [x3 6 (by decide), x' 6 (by decide)]; exact r2, by rw [x3 6 (by decide), x' 6 (by decide)]; exact r3, by rw [x3 6 (by decide), x' 6 (by decide)]; exact r4⟩, fun x x0 x1 => by rw [x3 7 (by decide), x' 7 (by decide)]; exact r5 x x0 x1, fun r r0 r1' => ?_, fun _ => ⟨?_, go_skc_eq (x3 11 (by decide)) (x3 12 (by decide)) _ (s' b _), s56⟩⟩
    · rw [x3 9 (by decide), x' 9 (by decide), x3 10 (by decide), x' 10 (by decide), x3 8 (by decide), x' 8 (by decide)]
      obtain ⟨y1, y2, y3⟩ := r6 r r0 r1'
      exact ⟨y1, y2, go_oc_sk (fun _ _ => Iff.rfl) y3⟩
    · rw [o5 5 (by decide), e5]
      have := go_len_cons (x := (b, go_new T kd pl (go_w kd pl e) ++ ps, go_w kd pl e)) (k := k2)
      (try dsimp only)
      omega
  · have k : kd = 2 := by omega
    rw [k] at tk
    obtain ⟨d, hd, he⟩ := gr_tok_nm pl0 tk
    have kb := gr_kof_b ⟨d, hd, rfl⟩
    have w1 : go_w kd pl e = 1 := by
      rw [k]
      rfl
    refine gr_key ct hd e3 (by omega) ⟨by omega, go_ipush (p := -1000 - pl) (by omega) se (by omega) e5 r9 (Or.inr (Or.inr ⟨by omega, by omega, gr_kf T d pl, ?_, rfl⟩)) (fun m2 x2 s2 => ⟨x2, ?_⟩)⟩
    · have : -1000 - (-1000 - pl) = pl := by omega
      rw [this]
      exact ⟨d, hd, rfl⟩
    · unfold go_new
      rw [if_pos k]
      exact s2
  · have k : kd = 4 := by omega
    rw [k] at tk
    have w1 : go_w kd pl e = 1 := by
      rw [k]
      rfl
    have nv := n3
    unfold go_new at nv
    rw [if_neg (by omega), if_pos k] at nv
    have pv := nv _ (List.mem_cons_self ..)
    have p0 : 0 < gh_ishl_f 1 (T (pl + 3) - 97 + 1) - gh_ishl_f 1 (T (pl + 1) - 97) := by
      obtain ⟨v1, v2, v3, v4, v5⟩ := gr_tok_cls tk
      unfold gr_in at v1 v3
      rw [gb_one (by omega) (by omega), gb_one (by omega) (by omega)]
      have a : 2 ^ (T (pl + 1) - 97).toNat < 2 ^ (T (pl + 3) - 97 + 1).toNat := Nat.pow_lt_pow_right (by decide) (by omega)
      generalize 2 ^ (T (pl + 1) - 97).toNat = u at *
      generalize 2 ^ (T (pl + 3) - 97 + 1).toNat = v at *
      omega
    refine go_setOfClass ct e3 pl0 (gr_tok_cls tk) (go_ipush (p := gh_ishl_f 1 (T (pl + 3) - 97 + 1) - gh_ishl_f 1 (T (pl + 1) - 97)) (by omega) se (by omega) e5 r9 (Or.inl ⟨p0, rfl⟩) (fun m2 x2 s2 => ⟨x2, ?_⟩))
    unfold go_new
    rw [if_neg (by omega), if_pos k]
    exact s2
  · have k : kd = 3 := by omega
    rw [k] at tk
    obtain ⟨d, d1, d2, d3, d4⟩ := gr_tok_quo tk
    have ew : go_w kd pl e = d := by
      unfold go_w
      rw [if_pos k]
      omega
    have en : go_new T kd pl (go_w kd pl e) = go_ql T pl d.toNat := by
      unfold go_new
      rw [if_neg (by omega), if_neg (by omega), ew]
    rw [en]
    rw [ew] at w4
    refine ⟨fun v m' => 0 ≤ v ∧ v ≤ d ∧ gx [11, 12] m m' ∧ ∀ b a : Int, go_skc T c m' ((b, go_ql T pl v.toNat ++ ps, a) :: k2), fun v _ => (10 - v).toNat, ⟨Int.le_refl _, by omega, gx_rf, fun b' a' => r9⟩, ?_⟩
    rintro v m' ⟨v0, v1, x', s'⟩
    unfold f_Reader_takeWord_81
    rw [(wid m' x').2, ew]
    refine ⟨(wid m' x').1, fun lt => ?_, fun ge => ?_⟩
    · have in1 := d1.2.1 v v0 lt
      have ct' : gr_ct T c m' := by
        unfold gr_ct
        rw [x' 3 (by decide), x' 4 (by decide)]
        exact ct
      have sa := gr_signAt ct' (pl + 1 + v)
      unfold gr_in at in1
      have ev := sa.2.1 in1.1 in1.2.1
      have sh := go_shl (x := T (pl + 1 + v) - 97) (by omega) (by omega)
      unfold k_Tape_setOfQuote x_Tape_setOfQuote
      rw [x' 3 (by decide), e3, ev]
      have lq : ((go_ql T pl v.toNat ++ ps).length : Int) = v + ps.length := by
        rw [List.length_append, go_ql_len]
        omega
      refine ⟨⟨by omega, by omega, sa.1, by omega⟩, go_ipush (p := gh_ishl_f 1 (T (pl + 1 + v) - 97)) (b := b) (a := a) (by omega) se (by omega) (by rw [x' 5 (by decide)]; exact e5) (s' b a) (Or.inl ⟨sh.1, rfl⟩) (fun m2 x2 s2 => ⟨by omega, ⟨by omega, by omega, gx_t x' x2, fun b' a' => ?_⟩, by (try dsimp only); omega⟩)⟩
      have e1 : (v + 1).toNat = v.toNat + 1 := by omega
      have e2' : pl + 1 + v = pl + ((v.toNat : Int) + 1) := by omega
      have := s2 b' a'
      rw [e2'] at this
      rw [e1]
      exact this
    · have e1 : v = d := by omega
      rw [e1] at s'
      exact ⟨x', s'⟩
