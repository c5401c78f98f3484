/-! READING: the class's rows -/
def go_cp (T : Int → Int) (c p x : Int) : Prop := (0 < p ∧ x = p) ∨ (p ≤ -2000 ∧ x = p + 1999) ∨ (-2000 < p ∧ p ≤ -1000 ∧ ∃ k, gr_kof T c (-1000 - p) k ∧ x = -1 - k)
/-- the parts that stand from b on, the last one first -/
def go_rd (C : Int → Int → Prop) (a : Int → Int) (b : Int) : List Int → Prop
  | [] => True
  | p :: L => C p (a (b + L.length)) ∧ go_rd C a b L
theorem go_rd_mv {C : Int → Int → Prop} {a a2 : Int → Int} {b b2 : Int} : ∀ L : List Int, (∀ x : Int, 0 ≤ x → x < L.length → a2 (b2 + x) = a (b + x)) → go_rd C a b L → go_rd C a2 b2 L
  | [], _, _ => trivial
  | p :: L, h, ⟨h1, h2⟩ => by
    have e : ((p :: L).length : Int) = L.length + 1 := by
      show ((L.length + 1 : Nat) : Int) = _
      omega
    exact ⟨by rw [h L.length (by omega) (by omega)]; exact h1, go_rd_mv L (fun x x0 x1 => h x x0 (by omega)) h2⟩
theorem go_rd_snoc {C : Int → Int → Prop} {a : Int → Int} {b p : Int} : ∀ L : List Int, C p (a b) → go_rd C a (b + 1) L → go_rd C a b (L ++ [p])
  | [], h, _ => ⟨by
      have e : b + (([] : List Int).length : Int) = b := by
        show b + ((0 : Nat) : Int) = b
        omega
      rw [e]
      exact h, trivial⟩
  | q :: L, h, ⟨h1, h2⟩ => by
    have e : b + ((L ++ [p]).length : Int) = b + 1 + L.length := by
      rw [List.length_append]
      show b + ((L.length + 1 : Nat) : Int) = _
      omega
    refine ⟨?_, go_rd_snoc L h h2⟩
    show C q (a (b + ((L ++ [p]).length : Int)))
    rw [e]
    exact h1
theorem go_rd_drop {C : Int → Int → Prop} {a : Int → Int} {b : Int} : ∀ (n : Nat) (L : List Int), go_rd C a b L → go_rd C a b (L.drop n)
  | 0, _, h => h
  | _ + 1, [], _ => trivial
  | n + 1, _ :: L, ⟨_, h2⟩ => go_rd_drop n L h2
theorem go_rd_take {C : Int → Int → Prop} {a : Int → Int} {b : Int} : ∀ (n : Nat) (L : List Int), n ≤ L.length → go_rd C a b L → go_rd C a (b + (L.length - n)) (L.take n)
  | 0, _, _, _ => trivial
  | n + 1, [], h, _ => absurd h (by
      show ¬ n + 1 ≤ 0
      omega)
  | n + 1, p :: L, h, ⟨h1, h2⟩ => by
    have hn : n ≤ L.length := Nat.le_of_succ_le_succ h
    have e : ((p :: L).length : Int) = L.length + 1 := by
      show ((L.length + 1 : Nat) : Int) = _
      omega
    have e2 : b + (((p :: L).length : Int) - ((n + 1 : Nat) : Int)) = b + (L.length - n) := by omega
    rw [e2]
    refine ⟨?_, go_rd_take n L hn h2⟩
    have e3 : b + ((L.length : Int) - n) + ((L.take n).length : Int) = b + L.length := by
      rw [List.length_take]
      omega
    rw [e3]
    exact h1
def go_skc (T : Int → Int) (c : Int) (m : gh_M) : go_K → Prop
  | [] => True
  | (_, ps, _) :: k => m 11 k.length = ps.length ∧ go_rd (go_cp T c) (m 12) (k.length * 4) ps ∧ go_skc T c m k
theorem go_skc_cg {T : Int → Int} {c : Int} {m m2 : gh_M} : ∀ k : go_K, go_se T c 1000000 k → (∀ x : Int, 0 ≤ x → x < k.length → m2 11 x = m 11 x) → (∀ x : Int, 0 ≤ x → x < k.length * 4 → m2 12 x = m 12 x) → go_skc T c m k → go_skc T c m2 k
  | [], _, _, _, _ => trivial
  | (b, ps, a) :: k, se, h11, h12, ⟨h1, h2, h3⟩ => by
    have lc := go_len_cons (x := (b, ps, a)) (k := k)
    have l4 := se.1.1
    exact ⟨by rw [h11 _ (by omega) (by omega)]; exact h1, go_rd_mv ps (fun x x0 x1 => h12 _ (by omega) (by omega)) h2, go_skc_cg k se.2 (fun x x0 x1 => h11 x x0 (by omega)) (fun x x0 x1 => h12 x x0 (by omega)) h3⟩
def go_at (m : gh_M) : go_K → Prop
  | [] => True
  | (_, _, a) :: _ => m 5 6 = a
def go_oc (sk : go_K) (mb : Int → Int) (o x : Int) : Prop := (o < 100 ∧ x = o) ∨ (200 ≤ o ∧ x = o - 192) ∨ ∃ b, 0 ≤ b ∧ b < 100 ∧ o = 100 + b ∧ ((∃ l, go_lv sk b l ∧ x = 16 + l) ∨ ((∀ l, ¬ go_lv sk b l) ∧ x = 8 + mb b))
/-- the class's reader is where it is said -/
def go_rc (T : Int → Int) (c : Int) (S : go_S) (m : gh_M) : Prop := (m 5 4 = S.1.1 ∧ m 6 1 = S.1.2.1 ∧ m 6 2 = S.1.2.2.1 ∧ m 6 3 = S.1.2.2.2.1) ∧ (∀ x, 0 ≤ x → x < S.1.2.1 → gr_kof T c (S.2.1.1 x) (m 7 x)) ∧ (∀ r, 0 ≤ r → r < S.1.2.2.2.1 → m 9 r = (S.2.1.2.2.1 r).length ∧ go_rd (go_cp T c) (m 10) (r * 4) (S.2.1.2.2.1 r) ∧ go_oc S.2.2 S.2.1.2.2.2.1 (S.2.1.2.1 r) (m 8 r)) ∧ (S.1.1 = 2 → m 5 5 = (S.2.2.length : Int) - 1 ∧ go_skc T c m S.2.2 ∧ go_at m S.2.2)
theorem go_push {m : gh_M} {Q : Int → gh_M → Prop} {l n v : Int} (l0 : 0 ≤ l) (l4 : l < 4) (e5 : m 5 5 = l) (en : m 11 l = n) (n0 : 0 ≤ n) (n4 : n < 4) (H : ∀ m2, gx [11, 12] m m2 → (∀ x, x ≠ l → m2 11 x = m 11 x) → m2 11 l = n + 1 → (∀ x, x ≠ l * 4 + n → m2 12 x = m 12 x) → m2 12 (l * 4 + n) = v → Q 0 m2) : w_Reader_push v m Q := by
  unfold w_Reader_push
  rw [e5, en]
  refine ⟨l0, l4, fun _ => ⟨by omega, l0, l4, by omega, by omega, by omega, l0, l4, by omega, l0, l4, H _ (gx_u (gx_u gx_rf (by decide)) (by decide)) (fun x xn => by rw [gh_u_i xn, gh_u_a (by decide)]) (gh_u_s _ _ _ _) (fun x xn => by rw [gh_u_a (by decide), gh_u_i xn]) (by rw [gh_u_a (by decide), gh_u_s])⟩, fun y => absurd n4 y⟩
theorem go_add {m : gh_M} {Q : Int → gh_M → Prop} {nr whose ahead f n : Int} (r0 : 0 ≤ nr) (r20 : nr < 20) (e3 : m 6 3 = nr) (n0 : 0 ≤ n) (n4 : (if ahead = 0 then 0 else 1) + n ≤ 4) (f0 : 0 ≤ f) (f16 : f + n ≤ 16) (H : ∀ m2, gx [6, 8, 9, 10] m m2 → (∀ y, y ≠ 3 → m2 6 y = m 6 y) → m2 6 3 = nr + 1 → (∀ x, x ≠ nr → m2 8 x = m 8 x) → m2 8 nr = whose → (∀ x, x ≠ nr → m2 9 x = m 9 x) → m2 9 nr = (if ahead = 0 then 0 else 1) + n → (∀ x, x < nr * 4 → m2 10 x = m 10 x) → (ahead ≠ 0 → m2 10 (nr * 4) = ahead) → (∀ i, 0 ≤ i → i < n → m2 10 (nr * 4 + (if ahead = 0 then 0 else 1) + i) = m 12 (f + i)) → Q 0 m2) : w_Draft_add_12 whose ahead f n m Q := by
  unfold w_Draft_add_12
  intro v6 hv6
  have e6 : v6 = if ahead = 0 then 0 else 1 := by
    rw [hv6]
    by_cases u : ahead = 0
    · rw [if_neg (fun y => y u), if_pos u]
    · rw [if_pos u, if_neg u]
  rw [← e6] at n4 H
  have v01 : v6 = 0 ∨ v6 = 1 := by
    rw [hv6]
    exact gh_ib01
  rw [e3]
  refine ⟨fun _ => ⟨by omega, fun _ _ => by omega⟩, fun _ => ⟨by omega, ?_⟩, fun y => absurd ⟨r20, n4, by omega, f16⟩ y⟩
  intro v7 hv7
  rw [hv7]
  clear hv7 v7
  refine ⟨fun m1 => gx [10] m m1 ∧ (∀ x, x ≠ nr * 4 → m1 10 x = m 10 x) ∧ (ahead ≠ 0 → m1 10 (nr * 4) = ahead), fun m1 ⟨j1, j2, j3⟩ => ?_, fun u => ⟨by omega, by omega, gx_one _ _ _ _, fun x xn => gh_u_i xn, fun _ => gh_u_s _ _ _ _⟩, fun u => ⟨gx_rf, fun _ _ => rfl, fun y => ?_⟩⟩
  · refine ⟨fun i m2 => 0 ≤ i ∧ i ≤ n ∧ gx [10] m1 m2 ∧ (∀ x, x < nr * 4 + v6 → m2 10 x = m1 10 x) ∧ ∀ x, 0 ≤ x → x < i → m2 10 (nr * 4 + v6 + x) = m 12 (f + x), fun i m2 => (20 - i).toNat, ⟨Int.le_refl _, n0, gx_rf, fun _ _ => rfl, fun x a b => by omega⟩, ?_⟩
    rintro i m2 ⟨i0, i1, hx2, o2, w2⟩
    have x2 : gx [10] m m2 := gx_t j1 hx2
    unfold f_Draft_add_12_70
    rw [x2 12 (by decide), x2 6 (by decide), e3]
    refine ⟨fun c => ⟨by omega, by omega, by omega, by omega, by omega, by omega, by omega, by omega, ⟨by omega, by omega, gx_u hx2 (by decide), fun x x1 => ?_, fun x a b => ?_⟩, by (try dsimp only); omega⟩, fun c => ⟨r0, r20, by omega, r0, r20, by omega, ?_⟩⟩
    · rw [gh_u_i (by omega)]
      exact o2 x x1
    · by_cases u : x = i
      · rw [u, gh_u_s]
      · rw [gh_u_i (by omega)]
        exact w2 x a (by omega)
    · have ei : i = n := by omega
      rw [ei] at w2
      refine H _ (gx_u (gx_u (gx_u (gx_sub x2 (by decide)) (by decide)) (by decide)) (by decide)) (fun y yn => by rw [gh_u_i yn, gh_u_a (by decide), gh_u_a (by decide), x2 6 (by decide)]) (gh_u_s _ _ _ _) (fun x xn => by rw [gh_u_a (by decide), gh_u_a (by decide), gh_u_i xn, x2 8 (by decide)]) (by rw [gh_u_a (by decide), gh_u_a (by decide), gh_u_s]) (fun x xn => by rw [gh_u_a (by decide), gh_u_i xn, gh_u_a (by decide), x2 9 (by decide)]) (by rw [gh_u_a (by decide), gh_u_s]) (fun x x1 => ?_) (fun y => ?_) (fun x a b => ?_)
      · rw [gh_u_a (by decide), gh_u_a (by decide), gh_u_a (by decide), o2 x (by omega)]
        exact j2 x (by omega)
      · have : v6 = 1 := by rw [e6, if_neg y]
        rw [gh_u_a (by decide), gh_u_a (by decide), gh_u_a (by decide), o2 _ (by omega)]
        exact j3 y
      · rw [gh_u_a (by decide), gh_u_a (by decide), gh_u_a (by decide)]
        exact w2 x a b
  · refine absurd ?_ u
    rw [e6, if_neg y]
theorem go_ipush {T : Int → Int} {c : Int} {m : gh_M} {Q : Int → gh_M → Prop} {b a p v : Int} {ps : List Int} {k : go_K} (k3 : k.length ≤ 3) (se : go_se T c 1000000 k) (l4 : ps.length < 4) (e5 : m 5 5 = k.length) (sk : go_skc T c m ((b, ps, a) :: k)) (cp : go_cp T c p v) (H : ∀ m2, gx [11, 12] m m2 → (∀ b a : Int, go_skc T c m2 ((b, p :: ps, a) :: k)) → Q 0 m2) : w_Reader_push v m Q := by
  obtain ⟨h1, h2, h3⟩ := sk
  refine go_push (l := (k.length : Int)) (n := (ps.length : Int)) (by omega) (by omega) e5 h1 (by omega) (by omega) (fun m2 x2 o11 s11 o12 s12 => H m2 x2 (fun b a => ⟨?_, ⟨?_, ?_⟩, ?_⟩))
  · rw [s11]
    show (ps.length : Int) + 1 = ((ps.length + 1 : Nat) : Int)
    omega
  · rw [s12]
    exact cp
  · exact go_rd_mv ps (fun x x0 x1 => o12 _ (by omega)) h2
  · exact go_skc_cg k se (fun x x0 x1 => o11 x (by omega)) (fun x x0 x1 => o12 x (by omega)) h3
/-- bits from a letter on to another -/
theorem go_setOfClass {T : Int → Int} {c pl : Int} {m : gh_M} {Q : Int → Prop} (h : gr_ct T c m) (e3 : m 3 3 = pl) (pl0 : 0 ≤ pl) (hc : gr_cls T c pl) (H : Q (gh_ishl_f 1 (T (pl + 3) - 97 + 1) - gh_ishl_f 1 (T (pl + 1) - 97))) : w_Tape_setOfClass m Q := by
  obtain ⟨w1, w2, w3, w4, w5⟩ := hc
  unfold gr_in at w1 w3
  have c240 := h.2.2.1
  have s1 := gr_signAt h (pl + 1)
  have s3 := gr_signAt h (pl + 3)
  unfold w_Tape_setOfClass
  rw [e3]
  refine ⟨by omega, s1.1, ?_⟩
  rw [s1.2.1 (by omega) (by omega)]
  intro v2 hv2
  obtain ⟨mn1, mn2, mn3⟩ := gz_mine (a := T (pl + 1) - 97) (b := T (pl + 3) - 97 + 1) (by omega) (by omega) (by omega)
  refine ⟨fun x s => T (pl + 1) ≤ s ∧ s ≤ T (pl + 3) + 1 ∧ gbs 26 x ∧ ∀ i, 0 ≤ i → (gb x i ↔ T (pl + 1) - 97 ≤ i ∧ i < s - 97), fun x s => (200 - s).toNat, ⟨by omega, by omega, gbs_0 _, fun i i0 => ⟨fun y => absurd y (gb_0 i), fun y => by omega⟩⟩, ?_⟩
  rintro x s ⟨s0, s1', gxx, hx⟩
  unfold f_Tape_setOfClass_13
  rw [e3]
  refine ⟨by omega, s3.1, ?_⟩
  rw [s3.2.1 (by omega) (by omega)]
  refine ⟨fun le => ⟨by omega, ?_⟩, fun gt => ?_⟩
  · intro x2 hx2
    have b1 : gbs 26 (gh_ishl_f 1 (s - 97)) := gbs_one (by omega) (by omega) (by decide)
    refine ⟨by omega, ⟨by omega, by omega, by rw [hx2]; exact gbs_or (by decide) gxx b1, fun i i0 => ?_⟩, by (try dsimp only); omega⟩
    rw [hx2, gb_ior (by decide) gxx b1, hx i i0, gb_ishl1 (by omega) (by omega) i0]
    omega
  · have es : s = T (pl + 3) + 1 := by omega
    have e : x = gh_ishl_f 1 (T (pl + 3) - 97 + 1) - gh_ishl_f 1 (T (pl + 1) - 97) := gb_ext (gbs_le gxx (by decide : 26 ≤ 31)) ⟨mn1, mn2⟩ (fun i i0 _ => by
      rw [hx i i0, mn3 i i0]
      omega)
    rw [e]
    exact H
theorem gr_tok_mark {T : Int → Int} {c pl si e : Int} (h : gr_tok T c pl 5 si e) : gr_mark si := by
  rcases h with ⟨a1, a2, a3, a4⟩ | ⟨a1, a2, a3⟩
  · omega
  · rcases a3 with ⟨c1, c2, d, c3, c4, c5⟩ | ⟨c1, d, c3, c4, c5⟩ | ⟨c1, c2, c3⟩ | ⟨c1, c2, c3, c4, c5⟩
    · omega
    · omega
    · omega
    · rcases c5 with c5 | c5
      · exact c5.1
      · omega
theorem gr_tok_cls {T : Int → Int} {c pl si e : Int} (h : gr_tok T c pl 4 si e) : gr_cls T c pl := by
  rcases h with ⟨a1, a2, a3, a4⟩ | ⟨a1, a2, a3⟩
  · omega
  · rcases a3 with ⟨c1, c2, d, c3, c4, c5⟩ | ⟨c1, d, c3, c4, c5⟩ | ⟨c1, c2, c3⟩ | ⟨c1, c2, c3, c4, c5⟩
    · omega
    · omega
    · rcases c3 with c3 | c3
      · exact c3.1
      · omega
    · omega
theorem gr_tok_quo {T : Int → Int} {c pl si e : Int} (h : gr_tok T c pl 3 si e) : ∃ d, gr_ln (gr_in T c 97 122) (pl + 1) d ∧ e = pl + d + 2 ∧ 1 ≤ d ∧ d ≤ 3 := by
  rcases h with ⟨a1, a2, a3, a4⟩ | ⟨a1, a2, a3⟩
  · omega
  · rcases a3 with ⟨c1, c2, d, c3, c4, c5⟩ | ⟨c1, d, c3, c4, c5⟩ | ⟨c1, c2, c3⟩ | ⟨c1, c2, c3, c4, c5⟩
    · omega
    · rcases c5 with c5 | c5
      · exact ⟨d, c3, c4, c5.1, c5.2.1⟩
      · omega
    · omega
    · omega

