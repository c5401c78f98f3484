/-! THE CLASS'S CHART: ends -/
theorem gm_nameOf {m : gh_M} {G : gm_G} (hG : gm_ok G) (hC : gm_C m G) {r d : Int} (r0 : 0 ≤ r) (r1 : r < gm_R G) (d0 : 0 ≤ d) (d1 : d < gm_s G r) : k_Grammar_nameOf (gm_p G r d) m ∧ x_Grammar_nameOf (gm_p G r d) m = gm_n G r d := by
  have hN := hG.2.1
  have w := gm_p_n hG r0 r1 d0 d1
  refine ⟨?_, ?_⟩
  · unfold k_Grammar_nameOf
    rw [hC.1]
    intro _
    exact ⟨by omega, fun _ => by omega⟩
  · unfold x_Grammar_nameOf
    rw [hC.1]
    rcases w with ⟨w1, w2, w3, w4⟩ | ⟨w1, w2, w3⟩
    · rw [if_pos w1, if_neg (by omega), w2]
    · rw [if_neg (by omega), w3]
def gt_t (m : gh_M) : Prop := 0 ≤ m 26 3 ∧ m 26 3 ≤ 8 ∧ ∀ k, 0 ≤ k → k < m 26 3 → 0 ≤ m 27 k ∧ m 27 k < 26
def gt_tab (G : gm_G) (m : gh_M) (n i j : Int) : Prop := 0 ≤ n ∧ n < gm_N G ∧ 0 ≤ i ∧ i ≤ 8 ∧ 0 ≤ j ∧ gb (m 31 (n * 9 + i)) j
/-- the table says nothing wrong -/
def gt_ts (G : gm_G) (m : gh_M) : Prop := (∀ x, 0 ≤ x → x < 72 → gbs 9 (m 31 x)) ∧ ∀ n i j, gt_tab G m n i j → gt_M G (m 26 3) (m 27) n i j
theorem gt_lt_s {A : Int → Prop} {k : Int} (k0 : 0 ≤ k) : (∃ p, 0 ≤ p ∧ p < k + 1 ∧ A p) ↔ (∃ p, 0 ≤ p ∧ p < k ∧ A p) ∨ A k := by
  constructor
  · rintro ⟨p, h1, h2, h3⟩
    by_cases e : p = k
    · rw [e] at h3
      exact Or.inr h3
    · exact Or.inl ⟨p, h1, by omega, h3⟩
  · rintro (⟨p, h1, h2, h3⟩ | h3)
    · exact ⟨p, h1, by omega, h3⟩
    · exact ⟨k, k0, by omega, h3⟩
theorem gt_beyond {m : gh_M} {G : gm_G} {Q : Int → Prop} (hG : gm_ok G) (hC : gm_C m G) (ht : gt_t m) (hs : gt_ts G m) {r d P : Int} (r0 : 0 ≤ r) (r1 : r < gm_R G) (d0 : 0 ≤ d) (d1 : d < gm_s G r) (hP : gbs 9 P) (h : ∀ V, gbs 9 V → (∀ q, 0 ≤ q → (gb V q ↔ ∃ p, 0 ≤ p ∧ p ≤ m 26 3 ∧ gb P p ∧ gt_pm G (m 26 3) (m 27) (gt_tab G m) r d p q)) → Q V) : w_Chart_beyond (gm_p G r d) P m Q := by
  have hN := hG.2.1
  have w := gm_p_n hG r0 r1 d0 d1
  obtain ⟨k1, x1⟩ := gm_nameOf hG hC r0 r1 d0 d1
  obtain ⟨t0, t1, t2⟩ := ht
  refine ⟨k1, ?_⟩
  rintro _ rfl
  rw [x1]
  refine ⟨fun V k => 0 ≤ k ∧ k ≤ m 26 3 + 1 ∧ gbs 9 V ∧ ∀ q, 0 ≤ q → (gb V q ↔ ∃ p, 0 ≤ p ∧ p < k ∧ (gb P p ∧ gt_pm G (m 26 3) (m 27) (gt_tab G m) r d p q)), fun _ k => (20 - k).toNat, ⟨by omega, by omega, gbs_0 _, fun q q0 => ⟨fun z => absurd z (gb_0 q), fun ⟨p, z1, z2, _⟩ => by omega⟩⟩, ?_⟩
  rintro V k ⟨k0, k2, hV, hq⟩
  unfold f_Chart_beyond_15
  refine ⟨fun c => ?_, fun c => h V hV (fun q q0 => ?_)⟩
  · have tst := gb_test0 (i := k) (gbs_le hP (by decide : 9 ≤ 31)) k0 (by omega)
    refine ⟨fun V' => gbs 9 V' ∧ ∀ q, 0 ≤ q → (gb V' q ↔ gb V q ∨ (gb P k ∧ gt_pm G (m 26 3) (m 27) (gt_tab G m) r d k q)), ?_, fun z => ⟨hV, fun q q0 => ⟨Or.inl, fun y => y.elim id (fun u => absurd u.1 (tst.mp z))⟩⟩, fun z => ?_⟩
    · rintro V' ⟨j1, j2⟩
      refine ⟨by omega, ⟨by omega, by omega, j1, fun q q0 => ?_⟩, by (try dsimp only); omega⟩
      rw [j2 q q0, gt_lt_s k0, hq q q0]
    · have pk : gb P k := Classical.byContradiction (fun y => z (tst.mpr y))
      refine ⟨fun y => ⟨fun _ _ => by omega, fun u => ⟨by omega, ?_⟩, fun u => ⟨hV, fun q q0 => ⟨Or.inl, fun v => v.elim id (fun v => ?_)⟩⟩⟩, fun y => ⟨by omega, by omega, by omega, by omega, ?_⟩⟩
      · rintro _ rfl
        have u1 : 0 ≤ k ∧ k < m 26 3 ∧ gb (gm_p G r d) (m 27 k) := by
          have u2 : 0 ≤ k ∧ k < m 26 3 := by
            unfold p_Text_fits at u
            exact ⟨by omega, by omega⟩
          refine ⟨u2.1, u2.2, ?_⟩
          have a := t2 k u2.1 u2.2
          have b := gb_test0 (x := gm_p G r d) (i := m 27 k) ⟨by omega, by omega⟩ a.1 (by omega)
          unfold p_Text_fits at u
          refine Classical.byContradiction (fun e => ?_)
          have := b.mpr e
          omega
        have b1 : gbs 9 (gh_ishl_f 1 (k + 1)) := gbs_one (by omega) (by omega) (by decide)
        refine ⟨gbs_or (by decide) hV b1, fun q q0 => ?_⟩
        rw [gb_ior (by decide : 9 ≤ 31) hV b1, gb_ishl1 (by omega) (by omega) q0]
        refine or_congr Iff.rfl ⟨fun e => ⟨pk, Or.inl ⟨y, e, u1.2.1, u1.2.2⟩⟩, fun e => ?_⟩
        rcases e.2 with ⟨_, e2, _⟩ | ⟨e1, _⟩
        · exact e2
        · exact absurd y e1
      · rcases v.2 with ⟨_, e2, e3, e4⟩ | ⟨e1, _⟩
        · refine absurd ?_ u
          have a := t2 k k0 e3
          have b := (gb_test0 (x := gm_p G r d) (i := m 27 k) ⟨by omega, by omega⟩ a.1 (by omega))
          have e5 : ¬ gh_iand_f (gh_ishr_f (gm_p G r d) (m 27 k)) 1 = 0 := fun e => b.mp e e4
          unfold p_Text_fits
          omega
        · exact absurd y e1
      · rintro _ rfl
        have n0 : 0 ≤ gm_n G r d ∧ gm_n G r d < gm_N G := by omega
        have b1 := hs.1 (gm_n G r d * 9 + k) (by omega) (by omega)
        refine ⟨gbs_or (by decide) hV b1, fun q q0 => ?_⟩
        rw [gb_ior (by decide : 9 ≤ 31) hV b1]
        refine or_congr Iff.rfl ⟨fun e => ⟨pk, Or.inr ⟨y, n0.1, n0.2, k0, by omega, q0, e⟩⟩, fun e => ?_⟩
        rcases e.2 with ⟨e1, _⟩ | ⟨_, e2⟩
        · exact absurd e1 y
        · exact e2.2.2.2.2.2
  · rw [hq q q0]
    constructor
    · rintro ⟨p, y1, y2, y3⟩
      exact ⟨p, y1, by omega, y3⟩
    · rintro ⟨p, y1, y2, y3⟩
      exact ⟨p, y1, by omega, y3⟩
/-- what a table says of rows stays within the text -/
theorem gt_ts_le {G : gm_G} (hG : gm_ok G) {m : gh_M} (hs : gt_ts G m) {n p q : Int} (h : gt_tab G m n p q) : p ≤ q ∧ q ≤ m 26 3 := by
  have := gt_M_rng hG (hs.2 n p q h)
  omega
theorem gt_endsOfRow {m : gh_M} {G : gm_G} {Q : Int → Prop} (hG : gm_ok G) (hC : gm_C m G) (ht : gt_t m) (hs : gt_ts G m) {r d i : Int} (r0 : 0 ≤ r) (r1 : r < gm_R G) (d0 : 0 ≤ d) (d1 : d ≤ gm_s G r) (i0 : 0 ≤ i) (i1 : i ≤ m 26 3) (h : ∀ V, gbs 9 V → (∀ q, 0 ≤ q → (gb V q ↔ gt_row G (m 26 3) (m 27) (gt_tab G m) r d i q)) → Q V) : w_Chart_endsOfRow r d i m Q := by
  have hsz := (hG.2.2.2.2.1 r r0 r1).2.2.2.1
  have ht2 := ht.2.1
  unfold w_Chart_endsOfRow
  rintro _ rfl
  have b1 : gbs 9 (gh_ishl_f 1 i) := gbs_one i0 (by omega) (by decide)
  refine ⟨fun V e => 0 ≤ e ∧ e ≤ d ∧ gbs 9 V ∧ ∀ q, 0 ≤ q → (gb V q ↔ gt_row G (m 26 3) (m 27) (gt_tab G m) r e i q), fun _ e => (10 - e).toNat, ⟨by omega, d0, b1, fun q q0 => ?_⟩, ?_⟩
  · rw [gb_ishl1 i0 (by omega) q0, gt_row_0]
    exact eq_comm
  rintro V e ⟨e0, e1, hV, hq⟩
  unfold f_Chart_endsOfRow_8
  refine ⟨fun c => h V hV (fun q q0 => ?_), fun c => ?_⟩
  · by_cases ed : e = d
    · rw [← ed]
      exact hq q q0
    · have v0 : V = 0 := by omega
      have none : ∀ q, 0 ≤ q → ¬ gt_row G (m 26 3) (m 27) (gt_tab G m) r e i q := fun q q0 y => by
        have := (hq q q0).mpr y
        rw [v0] at this
        exact gb_0 q this
      have st : ∀ (k : Nat) q, ¬ gt_row G (m 26 3) (m 27) (gt_tab G m) r (e + k) i q := by
        intro k
        induction k with
        | zero =>
          intro q y
          have y2 : gt_row G (m 26 3) (m 27) (gt_tab G m) r e i q := by
            have e : e + ((0 : Nat) : Int) = e := by omega
            rw [← e]
            exact y
          have := gt_row_rng i1 (fun n p q y => gt_ts_le hG hs y) y2
          exact none q (by omega) y2
        | succ k ih =>
          intro q y
          have ee : e + ((k + 1 : Nat) : Int) = (e + k) + 1 := by omega
          rw [ee, gt_row_s (by omega)] at y
          obtain ⟨p, y1, _⟩ := y
          exact ih p y1
      have dd : d = e + ((d - e).toNat : Nat) := by omega
      refine ⟨fun y => ?_, fun y => ?_⟩
      · rw [v0] at y
        exact absurd y (gb_0 q)
      · rw [dd] at y
        exact absurd y (st _ q)
  · obtain ⟨kk, xx⟩ := gm_partAt hG hC r0 r1 (d := e) e0 (by omega)
    refine ⟨kk, ?_⟩
    rw [xx]
    refine gt_beyond hG hC ht hs r0 r1 e0 (by omega) hV (fun V' h1 h2 => ⟨by omega, ⟨by omega, by omega, h1, fun q q0 => ?_⟩, by (try dsimp only); omega⟩)
    rw [h2 q q0, gt_row_s e0]
    constructor
    · rintro ⟨p, y1, y2, y3, y4⟩
      exact ⟨p, (hq p y1).mp y3, y4⟩
    · rintro ⟨p, y1, y2⟩
      have rg := gt_row_rng i1 (fun n p q y => gt_ts_le hG hs y) y1
      exact ⟨p, by omega, rg.2, (hq p (by omega)).mpr y1, y2⟩
/-- how many places are found from i on -/
def gt_cn (m : gh_M) (i : Int) : Nat := gct (fun k => (m 31 (k / 9 * 9 + i)).toNat.testBit (k % 9).toNat) 72
/-- the table is closed at i -/
def gt_ci (G : gm_G) (m : gh_M) (i : Int) : Prop := ∀ r j, 0 ≤ r → r < gm_R G → gt_row G (m 26 3) (m 27) (gt_tab G m) r (gm_s G r) i j → gt_tab G m (gm_o G r) i j
theorem gt_C_31 {m m2 : gh_M} {G : gm_G} (hx : gx [31] m m2) : m2 26 = m 26 ∧ m2 27 = m 27 := ⟨hx 26 (by decide), hx 27 (by decide)⟩
/-- rows from i on ask the table from i on only -/
theorem gt_row_from {G : gm_G} {z : Int} {t : Int → Int} {A B : Int → Int → Int → Prop} {r i : Int} (i1 : i ≤ z) (hA : ∀ n p q, A n p q → p ≤ q ∧ q ≤ z) (h : ∀ n p q, i ≤ p → A n p q → B n p q) : ∀ (k : Nat) (j : Int), gt_rw (gt_pm G z t A r) k i j → gt_rw (gt_pm G z t B r) k i j
  | 0, _, e => e
  | k + 1, j, ⟨p, h1, h2⟩ => by
    have rg := gt_row_le i1 hA k p h1
    exact ⟨p, gt_row_from i1 hA h k p h1, gt_pm_mono (fun _ y => h _ _ _ rg.1 y) h2⟩
theorem gt_findEnds {m : gh_M} {G : gm_G} {Q : Int → gh_M → Prop} (hG : gm_ok G) (hC : gm_C m G) (ht : gt_t m) (hs : gt_ts G m) {i : Int} (i0 : 0 ≤ i) (i1 : i ≤ m 26 3) (hc : ∀ e, i < e → e ≤ m 26 3 → gt_ci G m e) (h : ∀ m1, gx [31] m m1 → gt_ts G m1 → (∀ e, i ≤ e → e ≤ m 26 3 → gt_ci G m1 e) → Q 0 m1) : w_Chart_findEnds i m Q := by
  have hN0 := hG.1
  have hN := hG.2.1
  have hR0 := hG.2.2.1
  have hR := hG.2.2.2.1
  have ht2 := ht.2.1
  -- a change at i leaves what holds behind i
  have keep : ∀ m2, gx [31] m m2 → gt_ts G m2 → (∀ n p, 0 ≤ n → n < gm_N G → i < p → p ≤ 8 → m2 31 (n * 9 + p) = m 31 (n * 9 + p)) → ∀ e, i < e → e ≤ m 26 3 → gt_ci G m2 e := by
    intro m2 hx hs2 heq e e0 e1 r j r0 r1 y
    obtain ⟨x1, x2⟩ := gt_C_31 (G := G) hx
    rw [x1, x2] at y
    have tabs : ∀ n p q, e ≤ p → (gt_tab G m2 n p q ↔ gt_tab G m n p q) := fun n p q ep => by
      unfold gt_tab
      constructor
      · rintro ⟨a, b, c, d, f, g⟩
        rw [heq n p a b (by omega) d] at g
        exact ⟨a, b, c, d, f, g⟩
      · rintro ⟨a, b, c, d, f, g⟩
        rw [← heq n p a b (by omega) d] at g
        exact ⟨a, b, c, d, f, g⟩
    have le2 : ∀ n p q, gt_tab G m2 n p q → p ≤ q ∧ q ≤ m 26 3 := fun n p q y => by
      have := gt_ts_le hG hs2 y
      rw [x1] at this
      exact this
    exact (tabs _ _ _ (Int.le_refl _)).mpr (hc e e0 e1 r j r0 r1 (gt_row_from e1 le2 (fun n p q ep y => (tabs n p q ep).mp y) _ _ y))
  refine ⟨fun g v m2 => (g = 0 ∨ g = 1) ∧ 0 ≤ v ∧ v ≤ 73 ∧ gx [31] m m2 ∧ gt_ts G m2 ∧ (∀ n p, 0 ≤ n → n < gm_N G → i < p → p ≤ 8 → m2 31 (n * 9 + p) = m 31 (n * 9 + p)) ∧ (g = 0 → gt_ci G m2 i) ∧ (g = 1 → v ≤ gt_cn m2 i), fun _ v _ => (80 - v).toNat, ⟨Or.inr rfl, by omega, by omega, gx_rf, hs, fun _ _ _ _ _ _ => rfl, fun y => absurd y (by decide), fun _ => by omega⟩, ?_⟩
  rintro g v m2 ⟨g01, v0, v1, hx, hs2, heq, hg0, hg1⟩
  unfold f_Chart_findEnds_4
  refine ⟨fun c => ?_, fun c => ?_⟩
  · refine ⟨fun g' r m3 => (g' = 0 ∨ g' = 1) ∧ 0 ≤ r ∧ r ≤ gm_R G ∧ gx [31] m m3 ∧ gt_ts G m3 ∧ (∀ n p, 0 ≤ n → n < gm_N G → i < p → p ≤ 8 → m3 31 (n * 9 + p) = m 31 (n * 9 + p)) ∧ (g' = 0 → m3 = m2 ∧ ∀ q j, 0 ≤ q → q < r → gt_row G (m 26 3) (m 27) (gt_tab G m2) q (gm_s G q) i j → gt_tab G m2 (gm_o G q) i j) ∧ gt_cn m2 i ≤ gt_cn m3 i ∧ (g' = 1 → gt_cn m2 i < gt_cn m3 i), fun _ r _ => (30 - r).toNat, ⟨Or.inl rfl, by omega, by omega, hx, hs2, heq, fun _ => ⟨rfl, fun q j a b => by omega⟩, Nat.le_refl _, fun y => absurd y (by decide)⟩, ?_⟩
    rintro g' r m3 ⟨g2, r0, r1, hx3, hs3, heq3, h30, hle, h31⟩
    have c3 := gm_C_x hx3 (by decide) hC
    obtain ⟨x1, x2⟩ := gt_C_31 (G := G) hx3
    have ht3 : gt_t m3 := by
      unfold gt_t
      rw [x1, x2]
      exact ht
    unfold f_Chart_findEnds_19
    rw [c3.2.1]
    refine ⟨fun c2 => ?_, fun c2 => ⟨by omega, ⟨g2, by omega, by omega, hx3, hs3, heq3, fun y => ?_, fun y => ?_⟩, by (try dsimp only); omega⟩⟩
    · obtain ⟨p1, p2, p3, p4, p5⟩ := hG.2.2.2.2.1 r r0 c2
      rw [(c3.2.2 r r0 c2).1, (c3.2.2 r r0 c2).2.1]
      refine ⟨r0, by omega, by omega, by omega, ?_⟩
      rintro _ rfl
      refine ⟨by omega, by omega, r0, by omega, ?_⟩
      have i3 : i ≤ m3 26 3 := by rw [x1]; exact i1
      refine gt_endsOfRow hG c3 ht3 hs3 r0 c2 p3 (Int.le_refl _) i0 i3 (fun V hV hq => ?_)
      rintro _ rfl
      refine ⟨fun _ => ⟨by omega, by omega⟩, ?_⟩
      rintro _ rfl
      have b3 := hs3.1 (gm_o G r * 9 + i) (by omega) (by omega)
      have bo := gbs_or (by decide : 9 ≤ 31) b3 hV
      have ior := fun j => gb_ior (i := j) (by decide : 9 ≤ 31) b3 hV
      -- the new table
      have tabs : ∀ n p q, gt_tab G (gh_u m3 31 (gm_o G r * 9 + i) (gh_ior_f (m3 31 (gm_o G r * 9 + i)) V)) n p q ↔ gt_tab G m3 n p q ∨ (n = gm_o G r ∧ p = i ∧ 0 ≤ q ∧ gb V q) := fun n p q => by
        unfold gt_tab
        by_cases e : n * 9 + p = gm_o G r * 9 + i
        · rw [e, gh_u_s, ior q]
          constructor
          · rintro ⟨a, b, c, d, f, g | g⟩
            · exact Or.inl ⟨a, b, c, d, f, g⟩
            · exact Or.inr ⟨by omega, by omega, f, g⟩
          · rintro (⟨a, b, c, d, f, g⟩ | ⟨a, b, c, d⟩)
            · exact ⟨a, b, c, d, f, Or.inl g⟩
            · exact ⟨by omega, by omega, by omega, by omega, c, Or.inr d⟩
        · rw [gh_u_i e]
          constructor
          · exact Or.inl
          · rintro (y | ⟨a, b, c, d⟩)
            · exact y
            · exact absurd (by rw [a, b]) e
      have hx4 : gx [31] m (gh_u m3 31 (gm_o G r * 9 + i) (gh_ior_f (m3 31 (gm_o G r * 9 + i)) V)) := gx_u hx3 (List.mem_singleton.mpr rfl)
      obtain ⟨y1, y2⟩ := gt_C_31 (G := G) hx4
      have hs4 : gt_ts G (gh_u m3 31 (gm_o G r * 9 + i) (gh_ior_f (m3 31 (gm_o G r * 9 + i)) V)) := by
        refine ⟨fun x a b => ?_, fun n p q y => ?_⟩
        · by_cases e : x = gm_o G r * 9 + i
          · rw [e, gh_u_s]
            exact bo
          · rw [gh_u_i e]
            exact hs3.1 x a b
        · rw [y1, y2]
          have s3 := hs3.2
          rw [x1, x2] at s3
          rcases (tabs n p q).mp y with y | ⟨a, b, c, d⟩
          · exact s3 n p q y
          · rw [a, b]
            have rw1 := (hq q c).mp d
            rw [x1, x2] at rw1
            exact gt_M_cl r i q r0 c2 i0 i1 (gt_row_mono (fun _ _ _ _ _ _ w => s3 _ _ _ w) rw1)
      have heq4 : ∀ n p, 0 ≤ n → n < gm_N G → i < p → p ≤ 8 → (gh_u m3 31 (gm_o G r * 9 + i) (gh_ior_f (m3 31 (gm_o G r * 9 + i)) V)) 31 (n * 9 + p) = m 31 (n * 9 + p) := fun n p a b c d => by
        rw [gh_u_i (by omega)]
        exact heq3 n p a b c d
      have mono : ∀ k : Int, 0 ≤ k → k < 72 → (m3 31 (k / 9 * 9 + i)).toNat.testBit (k % 9).toNat = true → ((gh_u m3 31 (gm_o G r * 9 + i) (gh_ior_f (m3 31 (gm_o G r * 9 + i)) V)) 31 (k / 9 * 9 + i)).toNat.testBit (k % 9).toNat = true := fun k k0 k1 y => by
        by_cases e : k / 9 * 9 + i = gm_o G r * 9 + i
        · rw [e] at y ⊢
          rw [gh_u_s]
          exact (ior (k % 9)).mpr (Or.inl y)
        · rw [gh_u_i e]
          exact y
      refine ⟨by omega, by omega, by omega, ?_⟩
      by_cases same : gh_ior_f (m3 31 (gm_o G r * 9 + i)) V = m3 31 (gm_o G r * 9 + i)
      · have m34 : gh_u m3 31 (gm_o G r * 9 + i) (gh_ior_f (m3 31 (gm_o G r * 9 + i)) V) = m3 := by
          funext a j
          unfold gh_u
          by_cases e : a = 31 ∧ j = gm_o G r * 9 + i
          · rw [if_pos e, e.1, e.2]
            exact same
          · rw [if_neg e]
        have gz : (if (¬ (g' = 0) ∨ (¬ (gh_ior_f (m3 31 (gm_o G r * 9 + i)) V = m3 31 (gm_o G r * 9 + i)))) then (1 : Int) else 0) = g' := by
          rcases g2 with e | e
          · have nc : ¬ (¬ (g' = 0) ∨ (¬ (gh_ior_f (m3 31 (gm_o G r * 9 + i)) V = m3 31 (gm_o G r * 9 + i)))) := fun y => y.elim (fun a => a e) (fun a => a same)
            rw [if_neg nc, e]
          · have nc : ¬ (g' = 0) ∨ (¬ (gh_ior_f (m3 31 (gm_o G r * 9 + i)) V = m3 31 (gm_o G r * 9 + i))) := Or.inl (by omega)
            rw [if_pos nc, e]
        rw [gz, m34]
        refine ⟨⟨g2, by omega, by omega, hx3, hs3, heq3, fun y => ⟨(h30 y).1, fun q j q0 q1 w => ?_⟩, hle, h31⟩, by (try dsimp only); omega⟩
        by_cases e : q = r
        · subst e
          have em := (h30 y).1
          subst em
          have rg := gt_row_rng (A := gt_tab G m3) i1 (fun n p q y => by have := gt_ts_le hG hs3 y; rw [x1] at this; exact this) w
          rw [← x1, ← x2] at w
          have : gb V j := (hq j (by omega)).mpr w
          have : gb (gh_ior_f (m3 31 (gm_o G q * 9 + i)) V) j := (ior j).mpr (Or.inr this)
          rw [same] at this
          exact ⟨p1, p2, i0, by omega, by omega, this⟩
        · exact (h30 y).2 q j q0 (by omega) w
      · have gz : (if (¬ (g' = 0) ∨ (¬ (gh_ior_f (m3 31 (gm_o G r * 9 + i)) V = m3 31 (gm_o G r * 9 + i)))) then (1 : Int) else 0) = 1 := if_pos (Or.inr same)
        rw [gz]
        have lt : gt_cn m3 i < gt_cn (gh_u m3 31 (gm_o G r * 9 + i) (gh_ior_f (m3 31 (gm_o G r * 9 + i)) V)) i := by
          have ⟨j, hj⟩ : ∃ j : Int, ¬ (0 ≤ j → j < (9 : Nat) → (gb (gh_ior_f (m3 31 (gm_o G r * 9 + i)) V) j ↔ gb (m3 31 (gm_o G r * 9 + i)) j)) := Classical.not_forall.mp (fun y => same (gb_ext bo b3 y))
          have j0 : 0 ≤ j := Classical.byContradiction (fun y => hj (fun a => absurd a y))
          have j1 : j < 9 := Classical.byContradiction (fun y => hj (fun _ a => absurd a (by omega)))
          have j2 : ¬ gb (m3 31 (gm_o G r * 9 + i)) j := fun y => hj (fun _ _ => ⟨fun _ => y, fun _ => (ior j).mpr (Or.inl y)⟩)
          have j3 : gb (gh_ior_f (m3 31 (gm_o G r * 9 + i)) V) j := Classical.byContradiction (fun y => hj (fun _ _ => ⟨fun w => absurd w y, fun w => absurd w j2⟩))
          have k1 : (gm_o G r * 9 + j) / 9 * 9 + i = gm_o G r * 9 + i := by omega
          have k2 : (gm_o G r * 9 + j) % 9 = j := by omega
          refine gct_lt 72 (fun k a b => mono k a (by omega)) (gm_o G r * 9 + j) (by omega) (by omega) ?_ ?_
          · rw [k1, k2, gh_u_s]
            exact j3
          · rw [k1, k2]
            exact Bool.eq_false_iff.mpr j2
        refine ⟨⟨Or.inr rfl, by omega, by omega, hx4, hs4, heq4, fun y => absurd y (by decide), by omega, fun _ => by omega⟩, by (try dsimp only); omega⟩
    · have e : r = gm_R G := by omega
      subst e
      have em := (h30 y).1
      intro q j q0 q1 w
      subst em
      rw [x1, x2] at w
      exact (h30 y).2 q j q0 q1 w
    · have := h31 y
      have := hg1 (by omega)
      omega
  · have g0 : g = 0 := by
      rcases g01 with e | e
      · exact e
      · have a := hg1 e
        have b : gt_cn m2 i ≤ 72 := gct_le _ _
        omega
    refine h m2 hx hs2 (fun e e0 e1 => ?_)
    by_cases q : e = i
    · rw [q]
      exact hg0 g0
    · exact keep m2 hx hs2 heq e (by omega) e1

