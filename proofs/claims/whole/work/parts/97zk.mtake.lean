/-! READING: the model takes a token -/
def go_eq (p x : Int) : Prop := x = p
def go_skm (m : gh_M) : go_K → Prop
  | [] => True
  | (b, ps, a) :: k => m 71 k.length = ps.length ∧ go_rd go_eq (m 72) (k.length * 4) ps ∧ m 73 k.length = a ∧ (k ≠ [] → m 69 k.length = b) ∧ go_skm m k
theorem go_skm_cg {T : Int → Int} {c : Int} {m m2 : gh_M} : ∀ k : go_K, go_se T c 1000000 k → (∀ x : Int, 0 ≤ x → x < k.length → m2 69 x = m 69 x ∧ m2 71 x = m 71 x ∧ m2 73 x = m 73 x) → (∀ x : Int, 0 ≤ x → x < k.length * 4 → m2 72 x = m 72 x) → go_skm m k → go_skm m2 k
  | [], _, _, _, _ => trivial
  | (b, ps, a) :: k, se, h1, h2, ⟨a1, a2, a3, a4, a5⟩ => by
    have lc := go_len_cons (x := (b, ps, a)) (k := k)
    have l4 := se.1.1
    obtain ⟨w1, w2, w3⟩ := h1 k.length (by omega) (by omega)
    exact ⟨by rw [w2]; exact a1, go_rd_mv ps (fun x x0 x1 => h2 _ (by omega) (by omega)) a2, by rw [w3]; exact a3, fun z => by rw [w1]; exact a4 z, go_skm_cg k se.2 (fun x x0 x1 => h1 x x0 (by omega)) (fun x x0 x1 => h2 x x0 (by omega)) a5⟩
def go_fr (m m2 : gh_M) : Prop := gx [63, 65, 66, 67, 68, 69, 70, 71, 72, 73, 74] m m2 ∧ ∀ y : Int, (y < 8 ∨ 22 < y) → m2 63 y = m 63 y
theorem go_fr_t {m m1 m2 : gh_M} (h : go_fr m m1) (h2 : go_fr m1 m2) : go_fr m m2 := ⟨gx_t h.1 h2.1, fun y hy => by rw [h2.2 y hy]; exact h.2 y hy⟩
/-- the model's reader is where it is said -/
def go_rm (S : go_S) (m : gh_M) : Prop := (m 63 8 = S.1.2.1 ∧ m 63 9 = S.1.2.2.1 ∧ m 63 11 = S.1.2.2.2.1 ∧ m 63 16 = S.1.2.2.2.2.1 ∧ m 63 22 = S.1.2.2.2.2.2) ∧ (∀ x, 0 ≤ x → x < S.1.2.1 → m 65 x = S.2.1.1 x) ∧ (∀ r, 0 ≤ r → r < S.1.2.2.2.1 → m 66 r = S.2.1.2.1 r ∧ m 67 r = (S.2.1.2.2.1 r).length ∧ go_rd go_eq (m 68) (r * 4) (S.2.1.2.2.1 r)) ∧ (∀ b, 0 ≤ b → b < S.1.2.2.2.2.1 → (∀ l, ¬ go_lv S.2.2 b l) → m 70 b = S.2.1.2.2.2.1 b) ∧ (∀ x, 0 ≤ x → x < S.1.2.2.2.2.2 → m 74 x = S.2.1.2.2.2.2 x) ∧ (S.1.1 = 2 → m 63 15 = (S.2.2.length : Int) - 1 ∧ go_skm m S.2.2)
theorem go_madd {T : Int → Int} {c : Int} {m : gh_M} {Q : Int → gh_M → Prop} {b a p : Int} {ps : List Int} {k : go_K} (k3 : k.length ≤ 3) (se : go_se T c 1000000 k) (l4 : ps.length < 4) (d : m 63 15 = k.length) (sk : go_skm m ((b, ps, a) :: k)) (H : ∀ m2, gx [71, 72] m m2 → go_skm m2 ((b, p :: ps, a) :: k) → Q 0 m2) : w_Model_addPart p m Q := by
  obtain ⟨h1, h2, h3, h4, h5⟩ := sk
  unfold w_Model_addPart
  rw [d, h1]
  refine ⟨by omega, by omega, by omega, by omega, by omega, by omega, by omega, by omega, by omega, by omega, by omega, ?_⟩
  obtain ⟨m2, hm2⟩ : ∃ m2, m2 = gh_u (gh_u m 72 (4 * (k.length : Int) + ps.length) p) 71 (k.length : Int) ((ps.length : Int) + 1) := ⟨_, rfl⟩
  rw [← hm2]
  have x2 : gx [71, 72] m m2 := by
    rw [hm2]
    exact gx_u (gx_u gx_rf (by decide)) (by decide)
  have o71 : ∀ x, x ≠ (k.length : Int) → m2 71 x = m 71 x := fun x xn => by
    rw [hm2, gh_u_i xn, gh_u_a (by decide)]
  have s71 : m2 71 k.length = (ps.length : Int) + 1 := by
    rw [hm2, gh_u_s]
  have o72 : ∀ x, x ≠ 4 * (k.length : Int) + ps.length → m2 72 x = m 72 x := fun x xn => by
    rw [hm2, gh_u_a (by decide), gh_u_i xn]
  have s72 : m2 72 (k.length * 4 + ps.length) = p := by
    have e : (k.length : Int) * 4 + ps.length = 4 * (k.length : Int) + ps.length := by omega
    rw [e, hm2, gh_u_a (by decide), gh_u_s]
  clear hm2
  refine H m2 x2 ⟨?_, ⟨s72, go_rd_mv ps (fun x x0 x1 => o72 _ (by omega)) h2⟩, by rw [x2 73 (by decide)]; exact h3, fun z => by rw [x2 69 (by decide)]; exact h4 z, go_skm_cg k se (fun x x0 x1 => ⟨by rw [x2 69 (by decide)], o71 x (by omega), by rw [x2 73 (by decide)]⟩) (fun x x0 x1 => o72 x (by omega)) h5⟩
  rw [s71]
  show (ps.length : Int) + 1 = ((ps.length + 1 : Nat) : Int)
  omega
theorem go_mend {T : Int → Int} {c st nt md nr br ns b a : Int} {ta ow mb sa : Int → Int} {rl : Int → List Int} {ps : List Int} {k : go_K} {m : gh_M} {Q : Int → gh_M → Prop} (iv : ∃ pos, go_iv T c pos ((st, nt, md, nr, br, ns), (ta, ow, rl, mb, sa), (b, ps, a) :: k)) (rm : go_rm ((st, nt, md, nr, br, ns), (ta, ow, rl, mb, sa), (b, ps, a) :: k) m) (s2 : st = 2) (r20 : nr < 20) (H : ∀ m2, go_fr m m2 → m2 70 = m 70 → go_rm ((st, nt, md, nr + 1, br, ns), (ta, gm_upd ow nr (if k = [] then nt - 1 else 100 + b), go_upl rl nr ps, mb, sa), (b, [], 0) :: k) m2 → Q 0 m2) : w_Model_endRow m Q := by
  obtain ⟨pos, i1, i2, i3, i4, i5, i6, i7, ⟨i8, i9, i10, i11, i12⟩, i13, i14, i15⟩ := iv
  obtain ⟨⟨r1, r2, r3, r4, r5⟩, r6, r7, r8, r9, r10⟩ := rm
  (try dsimp only at i1 i2 i3 i4 i5 i6 i7 i8 i9 i10 i11 i12 i13 i14 i15 r1 r2 r3 r4 r5 r6 r7 r8 r9 r10)
  obtain ⟨d, t1, t2, t3, t4, t5⟩ := r10 s2
  obtain ⟨⟨q1, q2, q3, q4, q5⟩, q6⟩ := i9
  have se := go_se_big (by omega) q6
  obtain ⟨d1, d2, d3, d4⟩ := i10
  have i2a : 0 ≤ nt ∧ nt ≤ 8 := i2.1
  have n1 := i13 (by omega)
  have lc := go_len_cons (x := (b, ps, a)) (k := k)
  have ed : m 63 15 = k.length := by omega
  have ow1 : k_Model_ownerNow m ∧ x_Model_ownerNow m = if k = [] then nt - 1 else 100 + b := by
    unfold k_Model_ownerNow x_Model_ownerNow
    rw [ed, r1]
    by_cases u : k = []
    · rw [if_pos u, u]
      refine ⟨⟨fun _ => by omega, fun z => absurd rfl z⟩, ?_⟩
      rw [if_pos (show ((([] : go_K).length : Nat) : Int) = 0 from rfl)]
    · have kl : k.length ≠ 0 := fun z => u (List.eq_nil_of_length_eq_zero z)
      rw [if_neg u, t4 u, if_neg (by omega)]
      exact ⟨⟨fun _ => by omega, fun _ => by omega⟩, rfl⟩
  unfold w_Model_endRow
  rw [ow1.2, ed, r3, t1]
  refine ⟨ow1.1, by omega, by omega, by omega, by omega, by omega, by omega, ?_⟩
  obtain ⟨o, ho⟩ : ∃ o, o = if k = [] then nt - 1 else 100 + b := ⟨_, rfl⟩
  rw [← ho] at H ⊢
  clear ho ow1
  refine ⟨fun v m' => 0 ≤ v ∧ v ≤ ps.length ∧ gx [66, 67, 68] m m' ∧ ((∀ x, x ≠ nr → m' 66 x = m 66 x) ∧ m' 66 nr = o ∧ (∀ x, x ≠ nr → m' 67 x = m 67 x) ∧ m' 67 nr = ps.length) ∧ (∀ x, x < nr * 4 → m' 68 x = m 68 x) ∧ ∀ x, 0 ≤ x → x < v → m' 68 (nr * 4 + x) = m 72 (k.length * 4 + x), fun v _ => (10 - v).toNat, ⟨Int.le_refl _, by omega, gx_u (gx_u gx_rf (by decide)) (by decide), ⟨fun x xn => by rw [gh_u_a (by decide), gh_u_i xn], by rw [gh_u_a (by decide), gh_u_s], fun x xn => by rw [gh_u_i xn, gh_u_a (by decide)], gh_u_s _ _ _ _⟩, fun x _ => by rw [gh_u_a (by decide), gh_u_a (by decide)], fun x x0 x1 => by omega⟩, ?_⟩
  rintro v m' ⟨v0, v1, x', ⟨o66, s66, o67, s67⟩, o68, w68⟩
  unfold f_Model_endRow_33
  rw [x' 63 (by decide), x' 71 (by decide), x' 72 (by decide), ed, r3, t1]
  have e4 : 4 * nr + v = nr * 4 + v := by omega
  have e5 : 4 * (k.length : Int) + v = k.length * 4 + v := by omega
  rw [e4, e5]
  refine ⟨by omega, by omega, fun lt => ⟨by omega, by omega, by omega, by omega, by omega, by omega, by omega, by omega, by omega, ⟨by omega, by omega, gx_u x' (by decide), ⟨fun x xn => by rw [gh_u_a (by decide)]; exact o66 x xn, by rw [gh_u_a (by decide)]; exact s66, fun x xn => by rw [gh_u_a (by decide)]; exact o67 x xn, by rw [gh_u_a (by decide)]; exact s67⟩, fun x xl => by rw [gh_u_i (by omega)]; exact o68 x xl, fun x x0 x1 => ?_⟩, by (try dsimp only); omega⟩, fun ge => ⟨by omega, by omega, by omega, by omega, by omega, ?_⟩⟩
  · by_cases u : x = v
    · rw [u, gh_u_s]
    · rw [gh_u_i (by omega)]
      exact w68 x x0 (by omega)
  have ev : v = ps.length := by omega
  rw [ev] at w68
  obtain ⟨m3, hm3⟩ : ∃ m3, m3 = gh_u (gh_u (gh_u m' 63 11 (nr + 1)) 71 (k.length : Int) 0) 73 (k.length : Int) 0 := ⟨_, rfl⟩
  rw [← hm3]
  have x3 : gx [63, 71, 73] m' m3 := by
    rw [hm3]
    exact gx_u (gx_u (gx_u gx_rf (by decide)) (by decide)) (by decide)
  have o63 : ∀ y, y ≠ 11 → m3 63 y = m 63 y := fun y yn => by
    rw [hm3, gh_u_a (by decide), gh_u_a (by decide), gh_u_i yn, x' 63 (by decide)]
  have s63 : m3 63 11 = nr + 1 := by
    rw [hm3, gh_u_a (by decide), gh_u_a (by decide), gh_u_s]
  have o71 : ∀ x, x ≠ (k.length : Int) → m3 71 x = m 71 x := fun x xn => by
    rw [hm3, gh_u_a (by decide), gh_u_i xn, gh_u_a (by decide), x' 71 (by decide)]
  have s71 : m3 71 k.length = 0 := by
    rw [hm3, gh_u_a (by decide), gh_u_s]
  have o73 : ∀ x, x ≠ (k.length : Int) → m3 73 x = m 73 x := fun x xn => by
    rw [hm3, gh_u_i xn, gh_u_a (by decide), gh_u_a (by decide), x' 73 (by decide)]
  have s73 : m3 73 k.length = 0 := by
    rw [hm3, gh_u_s]
  clear hm3
  have x4 : gx [63, 66, 67, 68, 71, 73] m m3 := gx_t (gx_sub x' (by decide)) (gx_sub x3 (by decide))
  refine H m3 ⟨gx_sub x4 (by decide), fun y hy => o63 y (by omega)⟩ (x4 70 (by decide)) ⟨⟨by rw [o63 8 (by decide)]; exact r1, by rw [o63 9 (by decide)]; exact r2, s63, by rw [o63 16 (by decide)]; exact r4, by rw [o63 22 (by decide)]; exact r5⟩, fun x x0 x1 => by rw [x4 65 (by decide)]; exact r6 x x0 x1, fun r r0 r1' => ?_, fun b' b0 b1 no => by rw [x4 70 (by decide)]; exact r8 b' b0 b1 no, fun x x0 x1 => by rw [x4 74 (by decide)]; exact r9 x x0 x1, fun _ => ⟨by rw [o63 15 (by decide)]; exact d, ⟨s71, trivial, s73, fun z => by rw [x4 69 (by decide)]; exact t4 z, go_skm_cg k se (fun x x0 x1 => ⟨by rw [x4 69 (by decide)], o71 x (by omega), o73 x (by omega)⟩) (fun x x0 x1 => by rw [x4 72 (by decide)]) t5⟩⟩⟩
  have r1'' : r < nr + 1 := r1'
  (try dsimp only)
  rw [x3 66 (by decide), x3 67 (by decide), x3 68 (by decide)]
  by_cases u : r = nr
  · rw [u, go_upl_s, go_upd_s, s66, s67]
    exact ⟨rfl, rfl, go_rd_mv ps (fun x x0 x1 => w68 x x0 x1) t2⟩
  · rw [go_upl_i u, go_upd_i u, o66 r u, o67 r u]
    obtain ⟨y1, y2, y3⟩ := r7 r r0 (by omega)
    have y4 := (i6 r r0 (by omega)).1
    exact ⟨y1, y2, go_rd_mv _ (fun x x0 x1 => o68 _ (by omega)) y3⟩
theorem go_mrow {m : gh_M} {Q : Int → gh_M → Prop} {nr md beg wa a d : Int} {ps : List Int} (r0 : 0 ≤ nr) (r20 : nr < 20) (md0 : 0 ≤ md) (md8 : md ≤ 8) (e11 : m 63 11 = nr) (ed : m 63 15 = d) (d0 : 0 ≤ d) (d4 : d < 4) (l4 : ps.length ≤ 4) (e71 : m 71 d = ps.length) (e73 : m 73 d = a) (a0 : 0 ≤ a) (a1 : a ≤ ps.length) (a3 : a ≤ 3) (rd : go_rd go_eq (m 72) (d * 4) ps) (H : ∀ m2, gx [63, 66, 67, 68] m m2 → (∀ y, y ≠ 11 → m2 63 y = m 63 y) → m2 63 11 = nr + 1 → (∀ x, x ≠ nr → m2 66 x = m 66 x ∧ m2 67 x = m 67 x) → m2 66 nr = 200 + md → m2 67 nr = ((if beg = 0 then (if wa = 0 then [] else ps.take a.toNat) else (if wa = 0 then [] else ps.take a.toNat) ++ [beg] : List Int).length : Int) → (∀ x, x < nr * 4 → m2 68 x = m 68 x) → go_rd go_eq (m2 68) (nr * 4) (if beg = 0 then (if wa = 0 then [] else ps.take a.toNat) else (if wa = 0 then [] else ps.take a.toNat) ++ [beg]) → Q 0 m2) : w_Model_makeRow md beg wa m Q := by
  obtain ⟨L, hL⟩ : ∃ L : List Int, L = if wa = 0 then [] else ps.take a.toNat := ⟨_, rfl⟩
  have lL : (L.length : Int) = if wa = 0 then 0 else a := by
    rw [hL]
    by_cases u : wa = 0
    · rw [if_pos u, if_pos u]
      rfl
    · rw [if_neg u, if_neg u, List.length_take]
      omega
  have lLb : 0 ≤ (L.length : Int) ∧ (L.length : Int) ≤ a := by
    by_cases u : wa = 0
    · rw [if_pos u] at lL
      omega
    · rw [if_neg u] at lL
      omega
  have rdL : go_rd go_eq (m 72) (4 * d + ps.length - a) L := by
    rw [hL]
    by_cases u : wa = 0
    · rw [if_pos u]
      trivial
    · rw [if_neg u]
      have := go_rd_take a.toNat ps (by omega) rd
      have e : d * 4 + ((ps.length : Int) - (a.toNat : Int)) = 4 * d + ps.length - a := by omega
      rw [e] at this
      exact this
  rw [← hL] at H
  obtain ⟨ld, hld⟩ : ∃ ld : Int, ld = if beg = 0 then 0 else 1 := ⟨_, rfl⟩
  have ld01 : (beg = 0 → ld = 0) ∧ (beg ≠ 0 → ld = 1) := ⟨fun u => by rw [hld, if_pos u], fun u => by rw [hld, if_neg u]⟩
  have ldb : 0 ≤ ld ∧ ld ≤ 1 := by
    by_cases u : beg = 0
    · have := ld01.1 u
      omega
    · have := ld01.2 u
      omega
  unfold w_Model_makeRow
  rw [e11]
  refine ⟨by omega, r0, r20, fun v4 m1 => v4 = ld ∧ gx [66, 68] m m1 ∧ (∀ x, x ≠ nr → m1 66 x = m 66 x) ∧ m1 66 nr = 200 + md ∧ (∀ x, x < nr * 4 → m1 68 x = m 68 x) ∧ (beg ≠ 0 → m1 68 (nr * 4) = beg), ?_, fun u => ⟨(ld01.1 u).symm, gx_u gx_rf (by decide), fun x xn => gh_u_i xn, gh_u_s _ _ _ _, fun x _ => by rw [gh_u_a (by decide)], fun z => absurd u z⟩, fun u => ⟨by omega, by omega, by omega, (ld01.2 u).symm, gx_u (gx_u gx_rf (by decide)) (by decide), fun x xn => by rw [gh_u_a (by decide), gh_u_i xn], by rw [gh_u_a (by decide), gh_u_s], fun x xl => by rw [gh_u_i (by omega), gh_u_a (by decide)], fun _ => ?_⟩⟩
  · rintro v4 m1 ⟨hv, x1, o66, s66, o68, s68⟩
    rw [x1 63 (by decide), x1 71 (by decide), x1 73 (by decide), ed, e71, e73, hv]
    refine ⟨by omega, by omega, by omega, by omega, by omega, by omega, by omega, fun v5 hv5 => ?_⟩
    rw [hv5]
    clear hv5 v5 hv v4
    refine ⟨fun v4 v6 m' => 0 ≤ v6 ∧ v6 ≤ L.length ∧ v4 = ld + v6 ∧ gx [68] m1 m' ∧ (∀ x, x < nr * 4 + ld → m' 68 x = m1 68 x) ∧ ∀ x, 0 ≤ x → x < v6 → m' 68 (nr * 4 + ld + x) = m 72 (4 * d + ps.length - a + x), fun v4 v6 _ => (10 - v6).toNat, ⟨Int.le_refl _, by omega, by omega, gx_rf, fun _ _ => rfl, fun x x0 x1 => by omega⟩, ?_⟩
    rintro v4 v6 m' ⟨v0, v1, hv, x', o', w'⟩
    have x2 : gx [66, 68] m m' := gx_t x1 (gx_sub x' (by decide))
    unfold f_Model_makeRow_67
    rw [x2 63 (by decide), x2 72 (by decide), x2 73 (by decide), ed, e11, e73]
    refine ⟨d0, d4, fun v4' m2 => v4' = ld + L.length ∧ gx [68] m1 m2 ∧ (∀ x, x < nr * 4 + ld → m2 68 x = m1 68 x) ∧ ∀ x : Int, 0 ≤ x → x < L.length → m2 68 (nr * 4 + ld + x) = m 72 (4 * d + ps.length - a + x), ?_, fun z => ?_, fun z => ?_⟩
    · rintro v4' m2 ⟨hv', x2', o2, w2⟩
      have x3 : gx [66, 68] m m2 := gx_t x1 (gx_sub x2' (by decide))
      rw [x3 63 (by decide), e11]
      refine ⟨r0, r20, by omega, H _ (gx_u (gx_u (gx_sub x3 (by decide)) (by decide)) (by decide)) (fun y yn => by rw [gh_u_i yn, gh_u_a (by decide), x3 63 (by decide)]) (gh_u_s _ _ _ _) (fun x xn => ⟨by rw [gh_u_a (by decide), gh_u_a (by decide), x2' 66 (by decide)]; exact o66 x xn, by rw [gh_u_a (by decide), gh_u_i xn, x3 67 (by decide)]⟩) (by rw [gh_u_a (by decide), gh_u_a (by decide), x2' 66 (by decide)]; exact s66) ?_ (fun x xl => by rw [gh_u_a (by decide), gh_u_a (by decide), o2 x (by omega)]; exact o68 x xl) ?_⟩
      · rw [gh_u_a (by decide), gh_u_s, hv']
        by_cases u : beg = 0
        · rw [if_pos u, ld01.1 u]
          omega
        · rw [if_neg u, ld01.2 u, List.length_append]
          show 1 + (L.length : Int) = ((L.length + 1 : Nat) : Int)
          omega
      · have e68 : gh_u (gh_u m2 67 nr v4') 63 11 (nr + 1) 68 = m2 68 := funext fun x => by rw [gh_u_a (by decide), gh_u_a (by decide)]
        rw [e68]
        by_cases u : beg = 0
        · rw [if_pos u]
          refine go_rd_mv L (fun x x0 x1' => ?_) rdL
          have := w2 x x0 x1'
          rw [ld01.1 u, Int.add_zero] at this
          exact this
        · rw [if_neg u]
          refine go_rd_snoc L ?_ (go_rd_mv L (fun x x0 x1' => ?_) rdL)
          · have := o2 (nr * 4) (by have := ld01.2 u; omega)
            rw [this]
            exact s68 u
          · have := w2 x x0 x1'
            rw [ld01.2 u] at this
            exact this
    · have ev : v6 = L.length := by
        by_cases u : wa = 0
        · rw [if_pos u] at lL
          omega
        · rw [if_neg u] at lL
          omega
      rw [ev] at w' hv
      exact ⟨hv, x', o', w'⟩
    · have u : wa ≠ 0 := fun u => z (Or.inr u)
      have lt : v6 < a := by
        by_cases w : v6 < a
        · exact w
        · exact absurd (Or.inl w) z
      rw [if_neg u] at lL
      refine ⟨by omega, by omega, by omega, by omega, by omega, by omega, by omega, by omega, by omega, ⟨by omega, by omega, by omega, gx_u x' (by decide), fun x xl => by rw [gh_u_i (by omega)]; exact o' x xl, fun x x0 x1' => ?_⟩, by (try dsimp only); omega⟩
      by_cases e : x = v6
      · have e1 : nr * 4 + ld + x = 4 * nr + v4 := by omega
        rw [e1, gh_u_s, e]
      · rw [gh_u_i (by omega)]
        exact w' x x0 (by omega)
  · have e : nr * 4 = 4 * nr := by omega
    rw [e, gh_u_s]
