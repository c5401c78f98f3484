/-! THE MODEL'S CHART -/
def gd_ch (G : gm_G) (z : Int) (t : Int → Int) (U : Int → Prop) (st : Prop) (m : gh_M) : Prop := (∀ x, 0 ≤ x → x < 648 → m 97 x = 0 ∨ m 97 x = 1) ∧ (∀ n i j, 0 ≤ n → n < gm_N G → 0 ≤ i → i ≤ 8 → 0 ≤ j → j ≤ 8 → (m 97 (81 * n + 9 * i + j) ≠ 0 ↔ gt_M G z t n i j)) ∧ gd_bg G z t m ∧ ∀ n i, 0 ≤ n → n < gm_N G → 0 ≤ i → i ≤ 8 → (m 99 (9 * n + i) ≠ 0 ↔ gt_S G z t (fun _ => True) True n i) ∧ (m 100 (9 * n + i) ≠ 0 ↔ gt_S G z t U st n i)
theorem gd_ix {r d i j : Int} (d0 : 0 ≤ d) (d1 : d ≤ 4) (i0 : 0 ≤ i) (i1 : i ≤ 8) (j0 : 0 ≤ j) (j1 : j ≤ 8) : (405 * r + 81 * d + 9 * i + j) % 405 = 81 * d + 9 * i + j ∧ (405 * r + 81 * d + 9 * i + j) % 81 / 9 = i ∧ (405 * r + 81 * d + 9 * i + j) % 9 = j := by
  have h1 : (405 * r + 81 * d + 9 * i + j) % 81 = 9 * i + j := by omega
  refine ⟨by omega, ?_, by omega⟩
  rw [h1]
  omega
theorem gd_lay {m : gh_M} {G : gm_G} {z : Int} {t : Int → Int} {U : Int → Prop} {st : Prop} {Q : Int → gh_M → Prop} (hG : gm_ok G) (hD : gm_D m G) (ht : gd_t m z t) (hU : ∀ r, 0 ≤ r → r < gm_R G → (m 83 r ≠ 0 ↔ U r)) (hst : m 82 0 < 1000000000 ↔ st) (hl : m 63 52 ≠ 0 → gd_ch G z t U st m) (h : ∀ m1, gx [63, 97, 98, 99, 100] m m1 → (∀ j, j ≠ 52 → m1 63 j = m 63 j) → m1 63 52 ≠ 0 → (m1 63 52 = m 63 52 ∨ m1 63 52 = 1) → gd_ch G z t U st m1 → Q 0 m1) : w_Model_lay m Q := by
  have hN0 := hG.1
  have hN := hG.2.1
  have hR0 := hG.2.2.1
  have hR := hG.2.2.2.1
  have z0 := ht.2.1
  have z8 := ht.2.2.1
  have ez := ht.1
  refine ⟨fun c => ?_, fun c => h m (gx_sub (S := []) gx_rf (by decide)) (fun _ _ => rfl) c (Or.inl rfl) (hl c)⟩
  have x0 : gx [63] m (gh_u m 63 52 1) := gx_one _ _ _ _
  have u63 : ∀ j, j ≠ 52 → (gh_u m 63 52 1) 63 j = m 63 j := fun j e => gh_u_i e
  have hD0 : gm_D (gh_u m 63 52 1) G := by
    unfold gm_D
    rw [u63 26 (by decide), u63 27 (by decide), x0 79 (by decide), x0 80 (by decide), x0 81 (by decide)]
    exact hD
  have ht0 : gd_t (gh_u m 63 52 1) z t := by
    unfold gd_t
    rw [u63 50 (by decide), x0 96 (by decide)]
    exact ht
  have e82 := x0 82 (by decide)
  have e83 := x0 83 (by decide)
  refine ⟨fun k m1 => 0 ≤ k ∧ k ≤ 648 ∧ gx [97, 98] (gh_u m 63 52 1) m1 ∧ ∀ x, 0 ≤ x → x < k → m1 97 x = 0, fun k _ => (1000 - k).toNat, ⟨by omega, by omega, gx_rf, fun x a b => by omega⟩, ?_⟩
  rintro k m1 ⟨k0, k1, hx, hk⟩
  unfold f_Model_lay_15
  refine ⟨fun c2 => ⟨by omega, by omega, by omega, ⟨by omega, by omega, gx_u hx (by decide), fun x x0 x1 => ?_⟩, by (try dsimp only); omega⟩, fun c2 => ?_⟩
  · by_cases e : x = k
    · rw [e, gh_u_s]
    · rw [gh_u_i e]
      exact hk x x0 (by omega)
  refine ⟨fun k m2 => 0 ≤ k ∧ k ≤ 8100 ∧ gx [97, 98] (gh_u m 63 52 1) m2 ∧ m2 97 = m1 97 ∧ ∀ x, 0 ≤ x → x < k → m2 98 x = if x % 405 < 81 ∧ x % 81 / 9 = x % 9 ∧ x % 9 ≤ z then 1 else 0, fun k _ => (9000 - k).toNat, ⟨by omega, by omega, hx, rfl, fun x a b => by omega⟩, ?_⟩
  rintro l m2 ⟨l0, l1, hx2, h97, hl2⟩
  have d63 : m2 63 = (gh_u m 63 52 1) 63 := hx2 63 (by decide)
  unfold f_Model_lay_37
  rw [d63, ht0.1]
  refine ⟨fun c3 => ⟨by omega, fun _ => ⟨by omega, by omega, by omega, fun _ => by omega⟩, by omega, by omega, by omega, ⟨by omega, by omega, gx_u hx2 (by decide), ?_, fun x x0 x1 => ?_⟩, by (try dsimp only); omega⟩, fun c3 => ?_⟩
  · rw [gm_u_row2 (by decide)]
    exact h97
  · by_cases e : x = l
    · rw [e, gh_u_s]
    · rw [gh_u_i e]
      exact hl2 x x0 (by omega)
  have z97 : ∀ x, 0 ≤ x → x < 648 → m2 97 x = 0 := fun x a b => by rw [h97]; exact hk x a (by omega)
  have z98 : ∀ x, 0 ≤ x → x < 8100 → m2 98 x = if x % 405 < 81 ∧ x % 81 / 9 = x % 9 ∧ x % 9 ≤ z then 1 else 0 := fun x a b => hl2 x a (by omega)
  have snd0 : gd_snd G z t m2 := by
    refine ⟨fun x a b => Or.inl (z97 x a b), fun x a b => by rw [z98 x a b]; exact gh_ib01, fun n i j a b c d e f g => ?_, fun r d i j a b c d' e f g g2 w => ?_, fun r i a b c d => ?_⟩
    · exact absurd (z97 _ (by omega) (by omega)) g
    · have s4 := (hG.2.2.2.2.1 r a b).2.2.2.1
      rw [z98 _ (by omega) (by omega)] at w
      obtain ⟨ix1, ix2, ix3⟩ := gd_ix (r := r) (d := d) (i := i) (j := j) c (by omega) e f g g2
      by_cases q : (405 * r + 81 * d + 9 * i + j) % 405 < 81 ∧ (405 * r + 81 * d + 9 * i + j) % 81 / 9 = (405 * r + 81 * d + 9 * i + j) % 9 ∧ (405 * r + 81 * d + 9 * i + j) % 9 ≤ z
      · obtain ⟨q1, q2, q3⟩ := q
        rw [ix1] at q1
        rw [ix2, ix3] at q2
        rw [ix3] at q3
        have d0 : d = 0 := by omega
        have ij : i = j := q2
        rw [d0, ij]
        exact ⟨by omega, rfl⟩
      · rw [if_neg q] at w
        exact absurd rfl w
    · obtain ⟨ix1, ix2, ix3⟩ := gd_ix (r := r) (d := 0) (i := i) (j := i) (by omega) (by omega) c (by omega) c (by omega)
      rw [z98 _ (by omega) (by omega), if_pos ⟨by omega, by omega, by omega⟩]
      decide
  refine ⟨fun v m3 => (v = 0 ∨ v = 1) ∧ gx [97, 98] (gh_u m 63 52 1) m3 ∧ gd_snd G z t m3 ∧ (v = 0 → ∀ r, 0 ≤ r → r < gm_R G → (∀ d i p j, 0 ≤ d → d < gm_s G r → 0 ≤ i → i ≤ p → p ≤ j → j ≤ z → m3 98 (405 * r + 81 * d + 9 * i + p) ≠ 0 → gt_pm G z t (gd_mk m3) r d p j → m3 98 (405 * r + 81 * (d + 1) + 9 * i + j) ≠ 0) ∧ ∀ k, 0 ≤ k → k < 81 → m3 98 (405 * r + 81 * gm_s G r + k) ≠ 0 → m3 97 (81 * gm_o G r + k) ≠ 0), fun v m3 => 2 * (8748 - gd_cn m3) + v.toNat, ⟨Or.inr rfl, hx2, snd0, fun e => absurd e (by decide)⟩, ?_⟩
  rintro v m3 ⟨v01, hx3, s3, cl⟩
  have dd : ∀ m4, gx [97, 98] (gh_u m 63 52 1) m4 → m4 63 = (gh_u m 63 52 1) 63 ∧ gm_D m4 G ∧ gd_t m4 z t := fun m4 x4 => by
    refine ⟨x4 63 (by decide), gm_D_x x4 (by decide) hD0, ?_⟩
    unfold gd_t
    rw [x4 63 (by decide), x4 96 (by decide)]
    exact ht0
  unfold f_Model_lay_98
  refine ⟨fun e => ?_, fun e => ?_⟩
  · have clo := cl e
    obtain ⟨y63, hD3, ht3⟩ := dd m3 hx3
    -- the table of what names make is closed
    have mk : ∀ n i j, 0 ≤ n → n < gm_N G → 0 ≤ i → i ≤ 8 → 0 ≤ j → j ≤ 8 → (m3 97 (81 * n + 9 * i + j) ≠ 0 ↔ gt_M G z t n i j) := by
      intro n i j n0 n1 i0 i1 j0 j1
      refine ⟨s3.2.2.1 n i j n0 (by omega) i0 i1 j0 j1, fun w => ?_⟩
      have key : gt_cl G z t (fun n i j => 0 ≤ n ∧ n < gm_N G ∧ 0 ≤ i ∧ i ≤ j ∧ j ≤ z ∧ m3 97 (81 * n + 9 * i + j) ≠ 0) := by
        intro r i j r0 r1 i0 i1 w
        obtain ⟨p1, p2, p3, p4, p5⟩ := hG.2.2.2.2.1 r r0 r1
        have st : ∀ (d : Nat) (q : Int), (d : Int) ≤ gm_s G r → gt_rw (gt_pm G z t (fun n i j => 0 ≤ n ∧ n < gm_N G ∧ 0 ≤ i ∧ i ≤ j ∧ j ≤ z ∧ m3 97 (81 * n + 9 * i + j) ≠ 0) r) d i q → i ≤ q ∧ q ≤ z ∧ m3 98 (405 * r + 81 * d + 9 * i + q) ≠ 0 := by
          intro d
          induction d with
          | zero =>
            intro q _ e
            have e2 : i = q := e
            rw [← e2]
            exact ⟨by omega, i1, s3.2.2.2.2 r i r0 r1 i0 i1⟩
          | succ d ih =>
            rintro q dq ⟨p, w1, w2⟩
            obtain ⟨h1, h2, h3⟩ := ih p (by omega) w1
            have pq : p ≤ q ∧ q ≤ z := by
              rcases w2 with ⟨_, a1, a2, _⟩ | ⟨_, a⟩
              · omega
              · omega
            refine ⟨by omega, pq.2, ?_⟩
            have := (clo r r0 r1).1 d i p q (by omega) (by omega) i0 h1 pq.1 pq.2 h3 (gt_pm_mono (fun _ y => y.2.2.2.2.2) w2)
            have e : ((d + 1 : Nat) : Int) = (d : Int) + 1 := by omega
            rw [e]
            exact this
        obtain ⟨h1, h2, h3⟩ := st (gm_s G r).toNat j (by omega) w
        have e : (((gm_s G r).toNat : Nat) : Int) = gm_s G r := by omega
        rw [e] at h3
        have c1 := (clo r r0 r1).2 (9 * i + j) (by omega) (by omega) (by rw [← Int.add_assoc]; exact h3)
        rw [← Int.add_assoc] at c1
        exact ⟨p1, p2, i0, h1, h2, c1⟩
      exact (w _ key).2.2.2.2.2
    have bg : gd_bg G z t m3 := by
      intro r d i j r0 r1 d0 d1 i0 i1 j0 j1
      refine ⟨fun w => (s3.2.2.2.1 r d i j r0 r1 d0 d1 i0 (by omega) j0 (by omega) w).2, fun w => ?_⟩
      have st : ∀ (e : Nat) (q : Int), (e : Int) ≤ gm_s G r → gt_rw (gt_pm G z t (gt_M G z t) r) e i q → i ≤ q ∧ q ≤ z ∧ m3 98 (405 * r + 81 * e + 9 * i + q) ≠ 0 := by
        intro e
        induction e with
        | zero =>
          intro q _ e
          have e2 : i = q := e
          rw [← e2]
          exact ⟨by omega, i1, s3.2.2.2.2 r i r0 r1 i0 i1⟩
        | succ e ih =>
          rintro q dq ⟨p, w1, w2⟩
          obtain ⟨h1, h2, h3⟩ := ih p (by omega) w1
          have pq : p ≤ q ∧ q ≤ z := by
            rcases w2 with ⟨_, a1, a2, _⟩ | ⟨_, a⟩
            · omega
            · have := gt_M_rng hG a
              omega
          refine ⟨by omega, pq.2, ?_⟩
          have := (clo r r0 r1).1 e i p q (by omega) (by omega) i0 h1 pq.1 pq.2 h3 (gt_pm_mono (fun _ y => by
            have rg := gt_M_rng hG y
            exact (mk _ p q rg.1 rg.2.1 (by omega) (by omega) (by omega) (by omega)).mpr y) w2)
          have e : ((e + 1 : Nat) : Int) = (e : Int) + 1 := by omega
          rw [e]
          exact this
      have e : ((d.toNat : Nat) : Int) = d := by omega
      have := (st d.toNat j (by omega) w).2.2
      rw [e] at this
      exact this
    refine gd_mStand (U := U) (st := st) hG hD3 ht3 bg (fun r r0 r1 => ?_) ?_ (fun m4 x4 sd => ?_)
    · rw [hx3 83 (by decide), e83]
      exact hU r r0 r1
    · rw [hx3 82 (by decide), e82]
      exact hst
    have x04 : gx [63, 97, 98, 99, 100] m m4 := gx_tr (T := [99, 100]) (gx_tr (T := [97, 98]) (gx_sub x0 (by decide)) (gx_sub hx3 (by decide))) (gx_sub x4 (by decide))
    have e63 : m4 63 = (gh_u m 63 52 1) 63 := (x4 63 (by decide)).trans y63
    refine h m4 x04 (fun j e => by rw [e63]; exact u63 j e) (by rw [e63, gh_u_s]; decide) (Or.inr (by rw [e63, gh_u_s])) ⟨?_, ?_, ?_, sd⟩
    · rw [x4 97 (by decide)]
      exact s3.1
    · rw [x4 97 (by decide)]
      exact mk
    · unfold gd_bg
      rw [x4 98 (by decide)]
      exact bg
  · have v1 : v = 1 := v01.resolve_left e
    subst v1
    refine ⟨fun w r m4 => (w = 0 ∨ w = 1) ∧ 0 ≤ r ∧ r ≤ gm_R G ∧ gx [97, 98] (gh_u m 63 52 1) m4 ∧ gd_snd G z t m4 ∧ gd_cn m3 ≤ gd_cn m4 ∧ (w = 1 → gd_cn m3 < gd_cn m4) ∧ (w = 0 → m4 97 = m3 97 ∧ m4 98 = m3 98 ∧ ∀ q, 0 ≤ q → q < r → (∀ d i p j, 0 ≤ d → d < gm_s G q → 0 ≤ i → i ≤ p → p ≤ j → j ≤ z → m3 98 (405 * q + 81 * d + 9 * i + p) ≠ 0 → gt_pm G z t (gd_mk m3) q d p j → m3 98 (405 * q + 81 * (d + 1) + 9 * i + j) ≠ 0) ∧ ∀ k, 0 ≤ k → k < 81 → m3 98 (405 * q + 81 * gm_s G q + k) ≠ 0 → m3 97 (81 * gm_o G q + k) ≠ 0), fun _ r _ => (30 - r).toNat, ⟨Or.inl rfl, by omega, by omega, hx3, s3, Nat.le_refl _, fun e => absurd e (by decide), fun _ => ⟨rfl, rfl, fun q a b => by omega⟩⟩, ?_⟩
    rintro w r m4 ⟨w01, r0, r1, hx4, s4, le4, lt4, eq4⟩
    obtain ⟨y63, hD4, ht4⟩ := dd m4 hx4
    unfold f_Model_lay_106
    rw [hD4.2.1]
    refine ⟨fun c4 => ?_, fun c4 => ⟨⟨w01, hx4, s4, fun e0 => ?_⟩, ?_⟩⟩
    · refine gd_goesOn hG hD4 ht4 s4 r0 c4 (fun u m5 st5 k5 => ?_)
      obtain ⟨a1, a2, a3, a4, a5, a6⟩ := st5
      rintro _ rfl
      refine ⟨by omega, ⟨gh_ib01, by omega, by omega, gx_tr (T := [97, 98]) hx4 a1, a2, by omega, fun y => ?_, fun y => ?_⟩, by (try dsimp only); omega⟩
      · by_cases q : u = 0
        · by_cases q2 : w = 0
          · rw [if_neg (fun t => t.elim (fun t => t q) (fun t => t q2))] at y
            exact absurd y (by decide)
          · have := lt4 (w01.resolve_left q2)
            omega
        · have := a6 (a3.resolve_left q)
          omega
      · have u0 : u = 0 := Classical.byContradiction (fun t => by rw [if_pos (Or.inl t)] at y; exact absurd y (by decide))
        have w0 : w = 0 := Classical.byContradiction (fun t => by rw [if_pos (Or.inr t)] at y; exact absurd y (by decide))
        obtain ⟨b1, b2, b3⟩ := a4 u0
        obtain ⟨g1, g2, g3⟩ := eq4 w0
        refine ⟨b1.trans g1, b2.trans g2, fun q q0 q1 => ?_⟩
        by_cases e : q = r
        · subst e
          refine ⟨fun d i p j d0 d1 i0 ip pj jz x y => ?_, fun k k0 k1 x => ?_⟩
          · rw [← g2] at x ⊢
            refine b3 d i p j trivial d0 d1 i0 ip pj jz x ?_
            unfold gd_mk at y ⊢
            rw [g1]
            exact y
          · rw [← g2] at x
            rw [← g1]
            exact k5 u0 k k0 k1 x
        · exact g3 q q0 (by omega)
    · obtain ⟨g1, g2, g3⟩ := eq4 e0
      unfold gd_mk
      rw [g1, g2]
      exact fun q q0 q1 => g3 q q0 (by omega)
    · show 2 * (8748 - gd_cn m4) + w.toNat < 2 * (8748 - gd_cn m3) + (1 : Int).toNat
      have c3 := gd_cn_le m3
      have c4 := gd_cn_le m4
      by_cases y : w = 0
      · rw [y]
        show 2 * (8748 - gd_cn m4) + 0 < 2 * (8748 - gd_cn m3) + 1
        omega
      · have := lt4 (w01.resolve_left y)
        have w1 := w01.resolve_left y
        rw [w1]
        omega
