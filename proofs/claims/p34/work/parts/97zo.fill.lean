/-! READING: the class's grammar -/
theorem go_cpn {T : Int → Int} {c p x : Int} {S : go_S} (fin : go_fin T c S) {r d : Int} (r0 : 0 ≤ r) (r1 : r < S.1.2.2.2.1) (d0 : 0 ≤ d) (d1 : d < (S.2.1.2.2.1 r).length) (hp : p = go_nth (S.2.1.2.2.1 r) d) (cp : go_cp T c p x) : (0 < p ∧ p < 67108864 ∧ x = p ∧ go_pn T c S p = p) ∨ (x ≤ 0 ∧ 0 ≤ -1 - x ∧ -1 - x < S.1.2.2.1 ∧ go_pn T c S p = -1 - (S.1.2.1 + (-1 - x)) ∧ p ≤ -2000 ∧ -1 - x = -2000 - p) ∨ (x ≤ 0 ∧ 8 ≤ -1 - x ∧ -1 - x < 2097152 ∧ gr_kof T c (-1000 - p) (-1 - x) ∧ (-2000 < p ∧ p < 0) ∧ ∃ y, gr_td T c S.1.2.1 S.2.1.1 (-1000 - p) y ∧ go_pn T c S p = -1 - y) := by
  obtain ⟨c240, ⟨pos, iv⟩, s0, n0, iw, al⟩ := fin
  have pm := go_nth_mem _ d d0 d1
  rw [← hp] at pm
  obtain ⟨v1, v2, v3⟩ := iv.2.2.2.2.2.1 r r0 r1
  have pv := v2 _ pm
  have sp := iw.1 r r0 r1 p pm
  have i3 := iv.2.2.1
  rcases cp with ⟨c1, c2⟩ | ⟨c1, c2⟩ | ⟨c1, c2, k, c3, c4⟩
  · refine Or.inl ⟨c1, ?_, c2, ?_⟩
    · rcases pv with pv | pv | ⟨q, dd, nq, pv⟩
      · exact pv.2
      · omega
      · have := nq.1
        omega
    · unfold go_pn
      rw [if_pos c1]
  · have lo : -2000 - S.1.2.2.1 < p := by
      rcases pv with pv | pv | ⟨q, dd, nq, pv⟩
      · omega
      · exact pv.1
      · have := nq.1
        have := nq.2.1
        omega
    refine Or.inr (Or.inl ⟨by omega, by omega, by omega, ?_, c1, by omega⟩)
    unfold go_pn
    rw [if_neg (by omega), if_pos c1]
    omega
  · have kb := gr_kof_b c3
    obtain ⟨x', x0, x1, x2⟩ := sp c1 (by omega)
    obtain ⟨y, hy⟩ := al x' x0 x1
    have e : -1000 - p = S.2.1.2.2.2.2 x' := by omega
    rw [← e] at hy
    have e2 : -1 - x = k := by omega
    refine Or.inr (Or.inr ⟨by omega, by omega, by omega, by rw [e2]; exact c3, by omega, y, hy, ?_⟩)
    unfold go_pn
    rw [if_neg (by omega), if_neg (by omega), go_ti_e iv.2.1 hy]
/-- a rule is copied -/
theorem go_copy {T : Int → Int} {c q k n : Int} {S : go_S} {m : gh_M} {Q : Int → gh_M → Prop} (fin : go_fin T c S) (rc : go_rc T c S m) (q0 : 0 ≤ q) (q1 : q < S.1.2.2.2.1) (k0 : 0 ≤ k) (k20 : k < 20) (n0 : 0 ≤ n) (n8 : n < 8) (e1 : m 13 1 = n + 1) (e2 : m 13 2 = k) (b15 : 0 ≤ m 15 n ∧ m 15 n ≤ 20) (H : ∀ m2, gx [13, 15, 16, 17, 19] m m2 → (∀ y, y ≠ 2 → m2 13 y = m 13 y) → m2 13 2 = k + 1 → (∀ x, x ≠ n → m2 15 x = m 15 x) → m2 15 n = m 15 n + 1 → (∀ x, x ≠ k → m2 16 x = m 16 x) → m2 16 k = n → (∀ x, x ≠ k → m2 17 x = m 17 x) → m2 17 k = (S.2.1.2.2.1 q).length → (∀ x, x < k * 4 → m2 19 x = m 19 x) → (∀ d : Int, 0 ≤ d → d < (S.2.1.2.2.1 q).length → m2 19 (k * 4 + d) = go_pn T c S (go_nth (S.2.1.2.2.1 q) d)) → Q 0 m2) : w_Draft_copyRule_13 q m Q := by
  obtain ⟨y1, y2, y3⟩ := rc.2.2.1 q q0 q1
  have fin0 := fin
  obtain ⟨c240, ⟨pos, iv⟩, s0, nt0, iw, al⟩ := fin0
  have l4 := (iv.2.2.2.2.2.1 q q0 q1).1
  have i3 := iv.2.2.1
  have i4 := iv.2.2.2.1
  have i2a := iv.2.1.1
  unfold w_Draft_copyRule_13 w_Grammar_startRule
  rw [e1, e2]
  have en : n + 1 - 1 = n := by omega
  rw [en]
  refine ⟨fun z => by omega, fun _ => ⟨by omega, by omega, by omega, by omega, by omega, by omega, by omega, by omega, by omega, by omega, by omega, by omega, ?_⟩⟩
  obtain ⟨m1, hm1⟩ : ∃ m1, m1 = gh_u (gh_u (gh_u (gh_u m 16 k n) 17 k 0) 15 n (m 15 n + 1)) 13 2 (k + 1) := ⟨_, rfl⟩
  rw [← hm1]
  have x1 : gx [13, 15, 16, 17] m m1 := by
    rw [hm1]
    exact gx_u (gx_u (gx_u (gx_u gx_rf (by decide)) (by decide)) (by decide)) (by decide)
  have o13 : ∀ y, y ≠ 2 → m1 13 y = m 13 y := fun y yn => by
    rw [hm1, gh_u_i yn, gh_u_a (by decide), gh_u_a (by decide), gh_u_a (by decide)]
  have s13 : m1 13 2 = k + 1 := by
    rw [hm1, gh_u_s]
  have o15 : ∀ x, x ≠ n → m1 15 x = m 15 x := fun x xn => by
    rw [hm1, gh_u_a (by decide), gh_u_i xn, gh_u_a (by decide), gh_u_a (by decide)]
  have s15 : m1 15 n = m 15 n + 1 := by
    rw [hm1, gh_u_a (by decide), gh_u_s]
  have o17 : ∀ x, x ≠ k → m1 17 x = m 17 x := fun x xn => by
    rw [hm1, gh_u_a (by decide), gh_u_a (by decide), gh_u_i xn, gh_u_a (by decide)]
  have s17 : m1 17 k = 0 := by
    rw [hm1, gh_u_a (by decide), gh_u_a (by decide), gh_u_s]
  have o16 : ∀ x, x ≠ k → m1 16 x = m 16 x := fun x xn => by
    rw [hm1, gh_u_a (by decide), gh_u_a (by decide), gh_u_a (by decide), gh_u_i xn]
  have s16 : m1 16 k = n := by
    rw [hm1, gh_u_a (by decide), gh_u_a (by decide), gh_u_a (by decide), gh_u_s]
  clear hm1
  obtain ⟨L, hL⟩ : ∃ L, L = S.2.1.2.2.1 q := ⟨_, rfl⟩
  rw [← hL] at y1 y2 l4 H
  refine ⟨fun i m' => 0 ≤ i ∧ i ≤ L.length ∧ gx [17, 19] m1 m' ∧ (∀ x, x ≠ k → m' 17 x = m1 17 x) ∧ m' 17 k = i ∧ (∀ x, x < k * 4 → m' 19 x = m1 19 x) ∧ ∀ d : Int, 0 ≤ d → d < i → m' 19 (k * 4 + d) = go_pn T c S (go_nth L d), fun i _ => (10 - i).toNat, ⟨Int.le_refl _, by omega, gx_rf, fun _ _ => rfl, s17, fun _ _ => rfl, fun d a b => by omega⟩, ?_⟩
  rintro i m' ⟨i0, i1, x', o17', s17', o19, w19⟩
  unfold f_Draft_copyRule_13_6
  rw [x' 9 (by decide), x1 9 (by decide), x' 10 (by decide), x1 10 (by decide), y1]
  refine ⟨by omega, by omega, fun z => ⟨by omega, by omega, by omega, by omega, fun v4 hv4 => ?_⟩, fun z => ?_⟩
  · have cp := go_rd_n L i y2 i0 z.1
    rw [← hv4] at cp
    have cpn := go_cpn (p := go_nth L i) (x := v4) fin q0 q1 i0 (by rw [← hL]; exact z.1) (by rw [hL]) cp
    have vb : -2097152 ≤ v4 ∧ v4 < 67108864 := by
      rcases cpn with w | w | w
      · omega
      · omega
      · omega
    refine ⟨by omega, fun v5 hv5 => ⟨fun y0 => v4 ≤ 0 → (0 ≤ y0 ∧ y0 < 8 ∧ -1 - y0 = go_pn T c S (go_nth L i)), fun y0 hy => ⟨fun le => ?_, ?_⟩, fun lt => ?_, fun ge => ?_⟩⟩
    · have := hy le
      omega
    · have pe : (if v4 ≤ 0 then -1 - y0 else v4) = go_pn T c S (go_nth L i) := by
        by_cases u : v4 ≤ 0
        · rw [if_pos u]
          exact (hy u).2.2
        · rw [if_neg u]
          rcases cpn with w | w | w
          · rw [w.2.2.2]
            exact w.2.2.1
          · omega
          · omega
      rw [pe]
      unfold w_Grammar_addPart
      rw [x' 13 (by decide), s13]
      have ek : k + 1 - 1 = k := by omega
      rw [ek]
      refine ⟨by omega, fun v2 hv2 => ?_⟩
      rw [hv2]
      clear hv2 v2
      rw [s17']
      refine ⟨fun _ => by omega, fun _ => ⟨by omega, by omega, by omega, by omega, by omega, by omega, by omega, by omega, by omega, by omega, by omega, by omega, ⟨by omega, by omega, gx_u (gx_u x' (by decide)) (by decide), fun x xn => by rw [gh_u_i xn, gh_u_a (by decide)]; exact o17' x xn, gh_u_s _ _ _ _, fun x xl => by rw [gh_u_a (by decide), gh_u_i (by omega)]; exact o19 x xl, fun d d0 d1 => ?_⟩, by (try dsimp only); omega⟩, fun w => absurd ⟨by omega, by omega⟩ w⟩
      rw [gh_u_a (by decide)]
      by_cases u : d = i
      · rw [u, gh_u_s]
      · rw [gh_u_i (by omega)]
        exact w19 d d0 (by omega)
    · rw [x' 6 (by decide), x1 6 (by decide), rc.1.2.1]
      refine ⟨by omega, fun le => ?_⟩
      rcases cpn with w | w | w
      · omega
      · have w4 := w.2.2.2.1
        rw [hv5]
        refine ⟨by omega, by omega, w4.symm⟩
      · omega
    · have w : ∃ y, v4 ≤ 0 ∧ gr_kof T c (-1000 - go_nth L i) v5 ∧ gr_td T c S.1.2.1 S.2.1.1 (-1000 - go_nth L i) y ∧ go_pn T c S (go_nth L i) = -1 - y := by
        rcases cpn with w | w | w
        · omega
        · omega
        · obtain ⟨w1, w2, w3, w4, w5, y, w6, w7⟩ := w
          rw [← hv5] at w4
          exact ⟨y, w1, w4, w6, w7⟩
      obtain ⟨y, w1, w2, w3, w4⟩ := w
      refine gr_find (q := -1000 - go_nth L i) iv.2.1 (by rw [x' 6 (by decide), x1 6 (by decide)]; exact rc.1.2.1) (fun x x0 x1' => by rw [x' 7 (by decide), x1 7 (by decide)]; exact rc.2.1 x x0 x1') w2 (fun x hx _ => ?_) (fun no => absurd ⟨y, w3⟩ no)
      have h1 := go_ti_e iv.2.1 hx
      have h2 := go_ti_e iv.2.1 w3
      have e : x = y := by omega
      have a1 := hx.1
      have a2 := hx.2.1
      rw [w4, e]
      refine ⟨by omega, by omega, rfl⟩
  · have ei : i = L.length := by omega
    rw [ei] at s17' w19
    have x2 : gx [13, 15, 16, 17, 19] m m' := gx_t (gx_sub x1 (by decide)) (gx_sub x' (by decide))
    exact H m' x2 (fun y yn => by rw [x' 13 (by decide)]; exact o13 y yn) (by rw [x' 13 (by decide)]; exact s13) (fun x xn => by rw [x' 15 (by decide)]; exact o15 x xn) (by rw [x' 15 (by decide)]; exact s15) (fun x xn => by rw [x' 16 (by decide)]; exact o16 x xn) (by rw [x' 16 (by decide)]; exact s16) (fun x xn => by rw [o17' x xn]; exact o17 x xn) s17' (fun x xl => by rw [o19 x xl, x1 19 (by decide)]) w19
/-- where a row belongs -/
theorem go_whose {T : Int → Int} {c x : Int} {S : go_S} (fin : go_fin T c S) {r n : Int} (r0 : 0 ≤ r) (r1 : r < S.1.2.2.2.1) (n0 : 0 ≤ n) (n1 : n < S.1.2.1 + S.1.2.2.1) (oc : go_oc S.2.2 S.2.1.2.2.2.1 (S.2.1.2.1 r) x) : x = (if n < S.1.2.1 then n else 8 + n - S.1.2.1) ↔ go_nu S r = n := by
  obtain ⟨c240, ⟨pos, iv⟩, s0, nt0, iw, al⟩ := fin
  obtain ⟨⟨st, nt, md, nr, br, ns⟩, ⟨ta, ow, rl, mb, sa⟩, sk⟩ := S
  obtain ⟨i1, i2, i3, i4, i5, i6, i7, ⟨i8, i9, i10, i11, i12⟩, i13, i14, i15⟩ := iv
  (try dsimp only at i1 i2 i3 i4 i5 i6 i7 i8 i9 i10 i11 i12 i13 i14 i15 s0 r1 n1 oc nt0)
  have i2a : 0 ≤ nt ∧ nt ≤ 8 := i2.1
  have no : ∀ b l, 0 ≤ b → ¬ go_lv sk b l := fun b l b0 => by
    cases sk with
    | nil => exact id
    | cons x k => exact go_lv_0 (by have := i12 (by omega); omega) i10 b0
  have o := (i6 r r0 r1).2.2
  unfold go_nu
  (try dsimp only)
  have e : (if n < nt then n else 8 + n - nt) < 8 ∧ (if n < nt then n else 8 + n - nt) = n ∧ n < nt ∨ (if n < nt then n else 8 + n - nt) = 8 + n - nt ∧ nt ≤ n := by
    by_cases u : n < nt
    · rw [if_pos u]
      exact Or.inl ⟨by omega, rfl, u⟩
    · rw [if_neg u]
      exact Or.inr ⟨rfl, by omega⟩
  obtain ⟨w, hw⟩ : ∃ w, w = (if n < nt then n else 8 + n - nt) := ⟨_, rfl⟩
  rw [← hw] at e ⊢
  clear hw
  rcases oc with oc | oc | ⟨b, b0, b1, b2, oc⟩
  · rw [if_pos oc.1]
    omega
  · rw [if_neg (by omega), if_neg (by omega)]
    omega
  · rcases oc with ⟨l, z1, z2⟩ | ⟨z1, z2⟩
    · exact absurd z1 (no b l b0)
    · rw [if_neg (by omega), if_pos (by omega)]
      have eb : ow r - 100 = b := by omega
      rw [eb]
      have := i15 b b0 (by omega) z1
      omega
/-- the rules that stand in the class's grammar -/
def go_cr (T : Int → Int) (c : Int) (S : go_S) (m : gh_M) (L : List Int) : Prop := go_all (fun k q => (S.2.1.2.2.1 q).length ≤ 4 ∧ m 16 k = go_nu S q ∧ m 17 k = (S.2.1.2.2.1 q).length ∧ ∀ d : Int, 0 ≤ d → d < (S.2.1.2.2.1 q).length → m 19 (k * 4 + d) = go_pn T c S (go_nth (S.2.1.2.2.1 q) d)) L
def go_cs (T : Int → Int) (c : Int) (S : go_S) (m m' : gh_M) (n : Nat) (L : List Int) (st : Int) : Prop := gx [13, 14, 15, 16, 17, 18, 19] m m' ∧ m' 13 0 = S.1.2.1 ∧ m' 13 1 = st ∧ m' 13 2 = L.length ∧ go_cr T c S m' L ∧ (∀ q : Nat, q < n → m' 14 q = (go_ka (go_nu S) S.1.2.2.2.1.toNat q).length ∧ m' 14 q + m' 15 q = (go_ka (go_nu S) S.1.2.2.2.1.toNat (q + 1)).length) ∧ ∀ x, 0 ≤ x → x < st → (x < S.1.2.1 → gr_kof T c (S.2.1.1 x) (m' 18 x)) ∧ (S.1.2.1 ≤ x → m' 18 x = 0)
theorem go_fill {T : Int → Int} {c : Int} {S : go_S} {m : gh_M} {Q : Int → gh_M → Prop} (fin : go_fin T c S) (rc : go_rc T c S m) (H : ∀ m2, gx [13, 14, 15, 16, 17, 18, 19] m m2 → m2 13 0 = S.1.2.1 → gm_C m2 (go_G T c S) → gm_rg (go_G T c S) (m2 14) (m2 15) → go_rr S (m2 14) (m2 15) → (∀ x, 0 ≤ x → x < S.1.2.1 + S.1.2.2.1 → (x < S.1.2.1 → gr_kof T c (S.2.1.1 x) (m2 18 x)) ∧ (S.1.2.1 ≤ x → m2 18 x = 0)) → Q 0 m2) : w_Draft_fill_13 m Q := by
  have fin0 := fin
  obtain ⟨c240, ⟨pos, iv⟩, s0, nt0, iw, al⟩ := fin0
  have i3 := iv.2.2.1
  have i4 := iv.2.2.2.1
  have i2a := iv.2.1.1
  obtain ⟨⟨r1, r2, r3, r4⟩, r5, r6, r7⟩ := rc
  have rc0 : ∀ m', gx [13, 14, 15, 16, 17, 18, 19] m m' → go_rc T c S m' := fun m' x' => go_skc_x (fun a a0 a1 => x' a (fun z => by
    simp only [List.mem_cons, List.not_mem_nil, or_false] at z
    omega)) ⟨⟨r1, r2, r3, r4⟩, r5, r6, r7⟩
  have nb0 : ∀ q : Int, 0 ≤ q → q < (S.1.2.2.2.1.toNat : Int) → 0 ≤ go_nu S q := fun q a b => (go_nu_b iv s0 a (by omega)).1
  obtain ⟨nu, hnu⟩ : ∃ nu, nu = go_nu S := ⟨_, rfl⟩
  obtain ⟨NR, hNR⟩ : ∃ NR, NR = S.1.2.2.2.1.toNat := ⟨_, rfl⟩
  rw [← hnu, ← hNR] at nb0
  unfold w_Draft_fill_13 w_Grammar_clear
  obtain ⟨m1, hm1⟩ : ∃ m1, m1 = gh_u (gh_u (gh_u (gh_u m 13 0 0) 13 1 0) 13 2 0) 13 0 (m 6 1) := ⟨_, rfl⟩
  have e6 : gh_u (gh_u (gh_u m 13 0 0) 13 1 0) 13 2 0 6 1 = m 6 1 := by
    rw [gh_u_a (by decide), gh_u_a (by decide), gh_u_a (by decide)]
  (try dsimp only)
  rw [e6, ← hm1]
  have x1 : gx [13] m m1 := by
    rw [hm1]
    exact gx_u (gx_u (gx_u (gx_u gx_rf (by decide)) (by decide)) (by decide)) (by decide)
  have s0' : m1 13 0 = S.1.2.1 := by
    rw [hm1, gh_u_s]
    exact r2
  have s1' : m1 13 1 = 0 := by
    rw [hm1, gh_u_i (by decide), gh_u_i (by decide), gh_u_s]
  have s2' : m1 13 2 = 0 := by
    rw [hm1, gh_u_i (by decide), gh_u_s]
  clear hm1 e6
  unfold k_Draft_allNames x_Draft_allNames
  rw [x1 6 (by decide), r2, r3]
  refine ⟨by omega, fun v2 hv2 => ?_⟩
  have ev2 : v2 = S.1.2.1 + S.1.2.2.1 := by omega
  rw [ev2]
  clear hv2 ev2 v2
  refine ⟨fun v3 m' => 0 ≤ v3 ∧ v3 ≤ S.1.2.1 + S.1.2.2.1 ∧ go_cs T c S m m' v3.toNat (go_ka nu NR v3.toNat) v3, fun v3 _ => (20 - v3).toNat, ⟨Int.le_refl _, by omega, gx_sub x1 (by decide), s0', s1', s2', trivial, fun q h => absurd h (Nat.not_lt_zero q), fun x a b => by omega⟩, ?_⟩
  rintro v3 m' ⟨v30, v31, x', g0, g1, g2, g3, g4, g5⟩
  unfold f_Draft_fill_13_24
  have en : ((v3.toNat : Nat) : Int) = v3 := by omega
  rw [x' 6 (by decide), x' 7 (by decide), r2]
  refine ⟨fun lt => ⟨fun _ => by omega, ?_⟩, fun ge => ?_⟩
  · obtain ⟨key, hkey⟩ : ∃ key, key = if v3 < S.1.2.1 then m 7 v3 else 0 := ⟨_, rfl⟩
    rw [← hkey]
    unfold w_Grammar_startName
    rw [g1, g2]
    refine ⟨fun _ => ⟨by omega, by omega, by omega, by omega, by omega, by omega, by omega, ?_⟩, fun z => by omega⟩
    obtain ⟨m2, hm2⟩ : ∃ m2, m2 = gh_u (gh_u (gh_u (gh_u m' 18 v3 key) 14 v3 ((go_ka nu NR v3.toNat).length : Int)) 15 v3 0) 13 1 (v3 + 1) := ⟨_, rfl⟩
    rw [← hm2]
    have x2 : gx [13, 14, 15, 18] m' m2 := by
      rw [hm2]
      exact gx_u (gx_u (gx_u (gx_u gx_rf (by decide)) (by decide)) (by decide)) (by decide)
    have o13 : ∀ y, y ≠ 1 → m2 13 y = m' 13 y := fun y yn => by
      rw [hm2, gh_u_i yn, gh_u_a (by decide), gh_u_a (by decide), gh_u_a (by decide)]
    have s13 : m2 13 1 = v3 + 1 := by
      rw [hm2, gh_u_s]
    have o15 : ∀ x, x ≠ v3 → m2 15 x = m' 15 x := fun x xn => by
      rw [hm2, gh_u_a (by decide), gh_u_i xn, gh_u_a (by decide), gh_u_a (by decide)]
    have s15 : m2 15 v3 = 0 := by
      rw [hm2, gh_u_a (by decide), gh_u_s]
    have o14 : ∀ x, x ≠ v3 → m2 14 x = m' 14 x := fun x xn => by
      rw [hm2, gh_u_a (by decide), gh_u_a (by decide), gh_u_i xn, gh_u_a (by decide)]
    have s14 : m2 14 v3 = (go_ka nu NR v3.toNat).length := by
      rw [hm2, gh_u_a (by decide), gh_u_a (by decide), gh_u_s]
    have o18 : ∀ x, x ≠ v3 → m2 18 x = m' 18 x := fun x xn => by
      rw [hm2, gh_u_a (by decide), gh_u_a (by decide), gh_u_a (by decide), gh_u_i xn]
    have s18 : m2 18 v3 = key := by
      rw [hm2, gh_u_a (by decide), gh_u_a (by decide), gh_u_a (by decide), gh_u_s]
    clear hm2
    have x12 : gx [13, 14, 15, 16, 17, 18, 19] m m2 := gx_t x' (gx_sub x2 (by decide))
    rw [x12 6 (by decide), r2]
    refine ⟨fun _ => by omega, fun v4 hv4 => ?_⟩
    have cs2 : go_cs T c S m m2 v3.toNat (go_ka nu NR v3.toNat) (v3 + 1) := by
      refine ⟨x12, by rw [o13 0 (by decide)]; exact g0, s13, by rw [o13 2 (by decide)]; exact g2, ?_, fun q hq => ?_, fun x x0 x1' => ?_⟩
      · unfold go_cr
        rw [x2 16 (by decide), x2 17 (by decide), x2 19 (by decide)]
        exact g3
      · rw [o14 q (by omega), o15 q (by omega)]
        exact g4 q hq
      · by_cases u : x = v3
        · rw [u, s18, hkey]
          refine ⟨fun y => ?_, fun y => ?_⟩
          · rw [if_pos y]
            exact r5 v3 v30 y
          · rw [if_neg (by omega)]
        · rw [o18 x u]
          exact g5 x x0 (by omega)
    refine ⟨fun v5 m3 => 0 ≤ v5 ∧ v5 ≤ S.1.2.2.2.1 ∧ go_cs T c S m m3 v3.toNat (go_kr nu v3 v5.toNat (go_ka nu NR v3.toNat)) (v3 + 1) ∧ m3 14 v3 = (go_ka nu NR v3.toNat).length ∧ m3 14 v3 + m3 15 v3 = (go_kr nu v3 v5.toNat (go_ka nu NR v3.toNat)).length, fun v5 _ => (30 - v5).toNat, ⟨Int.le_refl _, i4.1, cs2, s14, by rw [s14, s15]; exact Int.add_zero _⟩, ?_⟩
    clear cs2 s14 s15 o14 o15 o13 o18 s18 s13 x12 x2 g0 g1 g2 g3 g4 g5 x' x1 s0' s1' s2'
    rintro v5 m3 ⟨v50, v51, cs, e14, e15⟩
    unfold f_Draft_fill_13_77
    have x3 := cs.1
    have rc3 := rc0 m3 x3
    have e5 : ((v5.toNat : Nat) : Int) = v5 := by omega
    rw [rc3.1.2.2.2]
    refine ⟨fun m4 => go_cs T c S m m4 (v3 + 1).toNat (go_ka nu NR (v3 + 1).toNat) (v3 + 1), fun m4 cs4 => ⟨by omega, ⟨by omega, by omega, cs4⟩, by (try dsimp only); omega⟩, fun z => ?_, fun z => ?_⟩
    · have wh := go_whose fin v50 z.1 v30 lt (rc3.2.2.1 v5 v50 z.1).2.2
      rw [← hnu] at wh
      have es : (v5 + 1).toNat = v5.toNat + 1 := by omega
      refine ⟨by omega, by omega, fun m4 => go_cs T c S m m4 v3.toNat (go_kr nu v3 (v5.toNat + 1) (go_ka nu NR v3.toNat)) (v3 + 1) ∧ m4 14 v3 = (go_ka nu NR v3.toNat).length ∧ m4 14 v3 + m4 15 v3 = (go_kr nu v3 (v5.toNat + 1) (go_ka nu NR v3.toNat)).length, fun m4 j => ⟨by omega, ⟨by omega, by omega, by rw [es]; exact j⟩, by (try dsimp only); omega⟩, fun y => ?_, fun y => ?_⟩
      · have ey : nu v5 = v3 := wh.mp (y.trans hv4)
        obtain ⟨L, hL⟩ : ∃ L, L = go_kr nu v3 v5.toNat (go_ka nu NR v3.toNat) := ⟨_, rfl⟩
        have eL : go_kr nu v3 (v5.toNat + 1) (go_ka nu NR v3.toNat) = (v5 : Int) :: L := by
          show (if nu ((v5.toNat : Nat) : Int) = v3 then ((v5.toNat : Nat) : Int) :: go_kr nu v3 v5.toNat (go_ka nu NR v3.toNat) else go_kr nu v3 v5.toNat (go_ka nu NR v3.toNat)) = _
          rw [e5, if_pos ey, ← hL]
        have room := go_kr_room2 nb0 v3.toNat (r := v5.toNat) (by omega) (by rw [e5, en]; exact ey)
        rw [en, ← hL] at room
        rw [← hL] at cs e15
        rw [eL]
        obtain ⟨_, g0, g1, g2, g3, g4, g5⟩ := cs
        have lk := go_kr_len (nu := nu) (n := v3) (L := go_ka nu NR v3.toNat) v5.toNat
        rw [← hL] at lk
        have l4 := (iv.2.2.2.2.2.1 v5 v50 z.1).1
        have lc := go_lc (x := v5) (L := L)
        refine go_copy fin rc3 v50 z.1 (k := (L.length : Int)) (n := v3) (by omega) (by omega) v30 (by omega) g1 g2 (by omega) (fun m4 x4 o13 s13 o15 s15 o16 s16 o17 s17 o19 s19 => ?_)
        refine ⟨⟨gx_t x3 (gx_sub x4 (by decide)), by rw [o13 0 (by decide)]; exact g0, by rw [o13 1 (by decide)]; exact g1, by rw [s13, lc], ⟨⟨l4, by rw [s16, ← hnu]; exact ey.symm, s17, s19⟩, go_all_mv L (fun k q k0 k1 w => ⟨w.1, by rw [o16 k (by omega)]; exact w.2.1, by rw [o17 k (by omega)]; exact w.2.2.1, fun d d0 d1 => by rw [o19 _ (by have := w.1; omega)]; exact w.2.2.2 d d0 d1⟩) g3⟩, fun q hq => by rw [x4 14 (by decide), o15 q (by omega)]; exact g4 q hq, fun x x0 x1' => by rw [x4 18 (by decide)]; exact g5 x x0 x1'⟩, by rw [x4 14 (by decide)]; exact e14, ?_⟩
        rw [x4 14 (by decide), s15, lc]
        omega
      · have eL : go_kr nu v3 (v5.toNat + 1) (go_ka nu NR v3.toNat) = go_kr nu v3 v5.toNat (go_ka nu NR v3.toNat) := by
          show (if nu ((v5.toNat : Nat) : Int) = v3 then ((v5.toNat : Nat) : Int) :: go_kr nu v3 v5.toNat (go_ka nu NR v3.toNat) else go_kr nu v3 v5.toNat (go_ka nu NR v3.toNat)) = _
          rw [e5, if_neg (fun w => y ((wh.mpr w).trans hv4.symm))]
        rw [eL]
        exact ⟨cs, e14, e15⟩
    · have ev : v5.toNat = NR := by omega
      have es : (v3 + 1).toNat = v3.toNat + 1 := by omega
      have eK : go_ka nu NR (v3.toNat + 1) = go_kr nu v3 v5.toNat (go_ka nu NR v3.toNat) := by
        show go_kr nu ((v3.toNat : Nat) : Int) NR (go_ka nu NR v3.toNat) = _
        rw [en, ev]
      obtain ⟨c1, c2, c3, c4, c5, c6, c7⟩ := cs
      rw [es, eK]
      refine ⟨c1, c2, c3, c4, c5, fun q hq => ?_, c7⟩
      by_cases u : q = v3.toNat
      · rw [u, en, ← hnu, ← hNR, eK]
        exact ⟨e14, e15⟩
      · exact c6 q (by omega)
  · have ev : v3 = S.1.2.1 + S.1.2.2.1 := by omega
    rw [ev] at g1 g2 g3 g4 g5
    have eK : go_kk S = go_ka nu NR (S.1.2.1 + S.1.2.2.1).toNat := by
      rw [hnu, hNR]
      rfl
    rw [← eK] at g2 g3
    refine H m' x' g0 ⟨g1, g2, fun k k0 k1 => ?_⟩ (go_G_rg fin (fun n hn => g4 n (by omega))) (fun n hn => g4 n (by omega)) g5
    have w := go_all_n _ k g3 k0 k1
    exact ⟨w.2.1, w.2.2.1, w.2.2.2⟩

