/-! READING: the class takes a token -/
theorem go_oc_sk {sk sk2 : go_K} {mb : Int → Int} {o x : Int} (h : ∀ b l, go_lv sk b l ↔ go_lv sk2 b l) (w : go_oc sk mb o x) : go_oc sk2 mb o x := by
  rcases w with w | w | ⟨b, b0, b1, b2, w⟩
  · exact Or.inl w
  · exact Or.inr (Or.inl w)
  · refine Or.inr (Or.inr ⟨b, b0, b1, b2, ?_⟩)
    rcases w with ⟨l, y1, y2⟩ | ⟨y1, y2⟩
    · exact Or.inl ⟨l, (h b l).mp y1, y2⟩
    · exact Or.inr ⟨fun l z => y1 l ((h b l).mpr z), y2⟩
theorem go_se_big {T : Int → Int} {c md : Int} (h : md ≤ 8) {k : go_K} (w : go_se T c md k) : go_se T c 1000000 k := go_se_up (by omega) k w
/-- a row ends: it is one of its owner -/
theorem go_iendRow {T : Int → Int} {c st nt md nr br ns b a : Int} {ta ow mb sa : Int → Int} {rl : Int → List Int} {ps : List Int} {k : go_K} {m : gh_M} {Q : Int → gh_M → Prop} (iv : ∃ pos, go_iv T c pos ((st, nt, md, nr, br, ns), (ta, ow, rl, mb, sa), (b, ps, a) :: k)) (rc : go_rc T c ((st, nt, md, nr, br, ns), (ta, ow, rl, mb, sa), (b, ps, a) :: k) m) (s2 : st = 2) (r20 : nr < 20) (H : ∀ m2, gx [5, 6, 8, 9, 10, 11] m m2 → (∀ y, y ≠ 6 → m2 5 y = m 5 y) → (∀ y, y ≠ 3 → m2 6 y = m 6 y) → go_rc T c ((st, nt, md, nr + 1, br, ns), (ta, gm_upd ow nr (if k = [] then nt - 1 else 100 + b), go_upl rl nr ps, mb, sa), (b, [], 0) :: k) m2 → Q 0 m2) : w_Reader_endRow m Q := by
  obtain ⟨pos, i1, i2, i3, i4, i5, i6, i7, ⟨i8, i9, i10, i11, i12⟩, i13, i14, i15⟩ := iv
  obtain ⟨⟨r1, r2, r3, r4⟩, r5, r6, r7⟩ := rc
  (try dsimp only at i1 i2 i3 i4 i5 i6 i7 i8 i9 i10 i11 i12 i13 i14 i15 r1 r2 r3 r4 r5 r6 r7)
  obtain ⟨r8, ⟨t1, t2, t3⟩, r10⟩ := r7 s2
  obtain ⟨⟨q1, q2, q3, q4, q5⟩, q6⟩ := i9
  obtain ⟨d1, d2, d3, d4⟩ := i10
  have lc := go_len_cons (x := (b, ps, a)) (k := k)
  have e5 : m 5 5 = k.length := by omega
  have n1 := i13 (by omega)
  have i2a : 0 ≤ nt ∧ nt ≤ 8 := i2.1
  unfold w_Reader_endRow w_Draft_addRow_12
  rw [e5, t1, r2]
  refine ⟨by omega, by omega, by omega, ⟨fun _ => by omega, fun _ => by omega⟩, ?_⟩
  refine go_add (nr := nr) i4.1 r20 r4 (by omega) (by rw [if_pos rfl]; omega) (by omega) (by omega) (fun m2 x2 o6 s6 o8 s8 o9 s9 o10 _ w10 => ?_)
  rw [if_pos rfl] at s9 w10
  unfold w_Reader_startRow
  rw [x2 5 (by decide), e5]
  refine ⟨by omega, by omega, ?_⟩
  obtain ⟨m3, hm3⟩ : ∃ m3, m3 = gh_u (gh_u m2 11 (k.length : Int) 0) 5 6 0 := ⟨_, rfl⟩
  rw [← hm3]
  have x3 : gx [5, 11] m2 m3 := by
    rw [hm3]
    exact gx_u (gx_u gx_rf (by decide)) (by decide)
  have o5 : ∀ y, y ≠ 6 → m3 5 y = m 5 y := fun y yn => by
    rw [hm3, gh_u_i yn, gh_u_a (by decide), x2 5 (by decide)]
  have s56 : m3 5 6 = 0 := by
    rw [hm3, gh_u_s]
  have o11 : ∀ x, x ≠ (k.length : Int) → m3 11 x = m 11 x := fun x xn => by
    rw [hm3, gh_u_a (by decide), gh_u_i xn, x2 11 (by decide)]
  have s11 : m3 11 (k.length : Int) = 0 := by
    rw [hm3, gh_u_a (by decide), gh_u_s]
  clear hm3
  refine H m3 (gx_t (gx_sub x2 (by decide)) (gx_sub x3 (by decide))) o5 (fun y yn => by rw [x3 6 (by decide)]; exact o6 y yn) ?_
  have lv : ∀ b' l, go_lv ((b, ps, a) :: k) b' l ↔ go_lv ((b, ([] : List Int), (0 : Int)) :: k) b' l := fun _ _ => Iff.rfl
  refine ⟨⟨by rw [o5 4 (by decide)]; exact r1, by rw [x3 6 (by decide), o6 1 (by decide)]; exact r2, by rw [x3 6 (by decide), o6 2 (by decide)]; exact r3, by rw [x3 6 (by decide)]; exact s6⟩, fun x x0 x1 => by rw [x3 7 (by decide), x2 7 (by decide)]; exact r5 x x0 x1, fun r r0 r1 => ?_, fun _ => ⟨?_, ⟨s11, trivial, go_skc_cg k (go_se_big (by omega) q6) (fun x x0 x1 => o11 x (by omega)) (fun x x0 x1 => by rw [x3 12 (by decide), x2 12 (by decide)]) t3⟩, s56⟩⟩
  · (try dsimp only at r1 ⊢)
    rw [x3 9 (by decide), x3 10 (by decide), x3 8 (by decide)]
    by_cases u : r = nr
    · rw [u, go_upl_s, go_upd_s, s9, s8]
      refine ⟨by omega, go_rd_mv ps (fun x x0 x1 => ?_) t2, ?_⟩
      · have := w10 x x0 x1
        have e : nr * 4 + 0 + x = nr * 4 + x := by omega
        rw [e] at this
        exact this
      · by_cases w : k = []
        · rw [if_pos w, w]
          rw [if_pos (show ((([] : go_K).length : Nat) : Int) = 0 from rfl)]
          exact Or.inl ⟨by omega, rfl⟩
        · have kl : k.length ≠ 0 := fun z => w (List.eq_nil_of_length_eq_zero z)
          rw [if_neg w, if_neg (by omega)]
          exact Or.inr (Or.inr ⟨b, d3.mpr w, by omega, rfl, Or.inl ⟨k.length, Or.inl ⟨rfl, rfl⟩, rfl⟩⟩)
    · rw [go_upl_i u, go_upd_i u, o9 r u, o8 r u]
      obtain ⟨y1, y2, y3⟩ := r6 r r0 (by omega)
      have y4 := (i6 r r0 (by omega)).1
      exact ⟨y1, go_rd_mv _ (fun x x0 x1 => o10 _ (by omega)) y2, go_oc_sk lv y3⟩
  · rw [o5 5 (by decide)]
    exact r8
theorem go_iadd {T : Int → Int} {c nr md ahead n : Int} {L : List Int} {whose f : Int} {m : gh_M} {Q : Int → gh_M → Prop} (r0 : 0 ≤ nr) (r20 : nr < 20) (e3 : m 6 3 = nr) (hn : n = L.length) (hL : (if ahead = 0 then 0 else 1) + (L.length : Int) ≤ 4) (f0 : 0 ≤ f) (f16 : f + L.length ≤ 16) (rd : go_rd (go_cp T c) (m 12) f L) (p : Int) (cp : ahead ≠ 0 → go_cp T c p ahead) (H : ∀ m2, gx [6, 8, 9, 10] m m2 → (∀ y, y ≠ 3 → m2 6 y = m 6 y) → m2 6 3 = nr + 1 → (∀ x, x ≠ nr → m2 8 x = m 8 x) → m2 8 nr = whose → (∀ x, x ≠ nr → m2 9 x = m 9 x) → m2 9 nr = ((if ahead = 0 then L else L ++ [p]).length : Int) → (∀ x, x < nr * 4 → m2 10 x = m 10 x) → go_rd (go_cp T c) (m2 10) (nr * 4) (if ahead = 0 then L else L ++ [p]) → Q 0 m2) : w_Draft_add_12 whose ahead f n m Q := by
  rw [hn]
  refine go_add (nr := nr) r0 r20 e3 (by omega) hL f0 f16 (fun m2 x2 o6 s6 o8 s8 o9 s9 o10 a10 w10 => H m2 x2 o6 s6 o8 s8 o9 ?_ o10 ?_)
  · rw [s9]
    by_cases u : ahead = 0
    · rw [if_pos u, if_pos u]
      omega
    · rw [if_neg u, if_neg u, List.length_append]
      show 1 + (L.length : Int) = ((L.length + 1 : Nat) : Int)
      omega
  · by_cases u : ahead = 0
    · rw [if_pos u] at w10 ⊢
      refine go_rd_mv L (fun x x0 x1 => ?_) rd
      have := w10 x x0 x1
      have e : nr * 4 + 0 + x = nr * 4 + x := by omega
      rw [e] at this
      exact this
    · rw [if_neg u] at w10 ⊢
      refine go_rd_snoc L (by rw [a10 u]; exact cp u) (go_rd_mv L (fun x x0 x1 => w10 x x0 x1) rd)
