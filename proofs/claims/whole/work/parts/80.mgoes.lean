/-! THE MODEL'S TABLES: what names make, what rules begin with -/
def gd_t (m : gh_M) (z : Int) (t : Int → Int) : Prop := m 63 50 = z ∧ 0 ≤ z ∧ z ≤ 8 ∧ ∀ k, 0 ≤ k → k < z → m 96 k = t k ∧ 0 ≤ t k ∧ t k < 26
def gd_mk (m : gh_M) (n i j : Int) : Prop := m 97 (81 * n + 9 * i + j) ≠ 0
/-- nothing wrong is told, and the beginnings are there -/
def gd_snd (G : gm_G) (z : Int) (t : Int → Int) (m : gh_M) : Prop := (∀ x, 0 ≤ x → x < 648 → m 97 x = 0 ∨ m 97 x = 1) ∧ (∀ x, 0 ≤ x → x < 8100 → m 98 x = 0 ∨ m 98 x = 1) ∧ (∀ n i j, 0 ≤ n → n < 8 → 0 ≤ i → i ≤ 8 → 0 ≤ j → j ≤ 8 → m 97 (81 * n + 9 * i + j) ≠ 0 → gt_M G z t n i j) ∧ (∀ r d i j, 0 ≤ r → r < gm_R G → 0 ≤ d → d ≤ gm_s G r → 0 ≤ i → i ≤ 8 → 0 ≤ j → j ≤ 8 → m 98 (405 * r + 81 * d + 9 * i + j) ≠ 0 → i ≤ z ∧ gt_row G z t (gt_M G z t) r d i j) ∧ ∀ r i, 0 ≤ r → r < gm_R G → 0 ≤ i → i ≤ z → m 98 (405 * r + 81 * 0 + 9 * i + i) ≠ 0
def gd_cn (m : gh_M) : Nat := gq_ct 648 (m 97) + gq_ct 8100 (m 98)
theorem gd_cn_le (m : gh_M) : gd_cn m ≤ 8748 := by
  have h1 := gct_le (fun n => decide (m 97 n ≠ 0)) 648
  have h2 := gct_le (fun n => decide (m 98 n ≠ 0)) 8100
  unfold gd_cn gq_ct
  omega
theorem gq_ct_up {T : Nat} {A : Int → Int} {x : Int} (x0 : 0 ≤ x) (x1 : x < T) (h : A x = 0) : gq_ct T A < gq_ct T (gm_upd A x 1) := by
  refine gct_lt T (fun i i0 i1 z => decide_eq_true ?_) x x0 x1 (decide_eq_true ?_) (decide_eq_false (fun z => z h))
  · have z2 := of_decide_eq_true z
    unfold gm_upd
    split
    · decide
    · exact z2
  · unfold gm_upd
    rw [if_pos rfl]
    decide
theorem gd_partMakes {m : gh_M} {G : gm_G} {z : Int} {t : Int → Int} (hG : gm_ok G) (ht : gd_t m z t) (hs : gd_snd G z t m) {r d p q : Int} (r0 : 0 ≤ r) (r1 : r < gm_R G) (d0 : 0 ≤ d) (d1 : d < gm_s G r) (p0 : 0 ≤ p) (pq : p ≤ q) (q1 : q ≤ z) : k_Model_partMakes (gm_p G r d) p q m ∧ (x_Model_partMakes (gm_p G r d) p q m ≠ 0 ↔ gt_pm G z t (gd_mk m) r d p q) := by
  have hN := hG.2.1
  obtain ⟨t1, t2, t3, t4⟩ := ht
  have w := gm_p_n hG r0 r1 d0 d1
  refine ⟨?_, ?_⟩
  · unfold k_Model_partMakes
    refine ⟨fun c => ⟨by omega, by omega, by omega, by omega, by omega, by omega, by omega, hs.1 _ (by omega) (by omega)⟩, fun c => ⟨by omega, fun e => by omega⟩⟩
  · unfold x_Model_partMakes
    rcases w with ⟨w1, w2, w3, w4⟩ | ⟨w1, w2, w3⟩
    · rw [if_pos (by omega), ← w2]
      unfold gt_pm gd_mk
      exact ⟨fun y => Or.inr ⟨by omega, y⟩, fun y => y.elim (fun u => by omega) (fun u => u.2)⟩
    · rw [if_neg (by omega)]
      by_cases e : q = p + 1
      · have tt := t4 p p0 (by omega)
        rw [if_pos e, tt.1]
        have b := gb_test1 (x := gm_p G r d) (i := t p) ⟨by omega, by omega⟩ tt.2.1 (by omega)
        by_cases c : gh_iand_f (gh_ishr_f (gm_p G r d) (t p)) 1 = 1
        · rw [if_pos c]
          exact ⟨fun _ => Or.inl ⟨w3, e, by omega, b.mp c⟩, fun _ => by decide⟩
        · rw [if_neg c]
          refine ⟨fun y => absurd rfl y, fun y => ?_⟩
          rcases y with ⟨_, _, _, y⟩ | ⟨y, _⟩
          · exact absurd (b.mpr y) c
          · exact absurd w3 y
      · rw [if_neg e]
        refine ⟨fun y => absurd rfl y, fun y => ?_⟩
        rcases y with ⟨_, y, _⟩ | ⟨y, _⟩
        · exact absurd y e
        · exact absurd w3 y
/-- within a pass over the rule r that began at m0: L tells what was gone over -/
def gd_st (G : gm_G) (z : Int) (t : Int → Int) (r : Int) (m0 : gh_M) (L : Int → Int → Int → Int → Prop) (v : Int) (m : gh_M) : Prop := gx [97, 98] m0 m ∧ gd_snd G z t m ∧ (v = 0 ∨ v = 1) ∧ (v = 0 → m 97 = m0 97 ∧ m 98 = m0 98 ∧ ∀ d i p j, L d i p j → 0 ≤ d → d < gm_s G r → 0 ≤ i → i ≤ p → p ≤ j → j ≤ z → m0 98 (405 * r + 81 * d + 9 * i + p) ≠ 0 → gt_pm G z t (gd_mk m0) r d p j → m0 98 (405 * r + 81 * (d + 1) + 9 * i + j) ≠ 0) ∧ gd_cn m0 ≤ gd_cn m ∧ (v = 1 → gd_cn m0 < gd_cn m)
theorem gd_st_w {G : gm_G} {z : Int} {t : Int → Int} {r : Int} {m0 m : gh_M} {L L2 : Int → Int → Int → Int → Prop} {v : Int} (h : gd_st G z t r m0 L v m) (hL : v = 0 → ∀ d i p j, L2 d i p j → 0 ≤ d → d < gm_s G r → 0 ≤ i → i ≤ p → p ≤ j → j ≤ z → L d i p j ∨ m0 98 (405 * r + 81 * d + 9 * i + p) = 0) : gd_st G z t r m0 L2 v m := by
  obtain ⟨a1, a2, a3, a4, a5, a6⟩ := h
  refine ⟨a1, a2, a3, fun e => ⟨(a4 e).1, (a4 e).2.1, fun d i p j l d0 d1 i0 ip pj jz b w => ?_⟩, a5, a6⟩
  rcases hL e d i p j l d0 d1 i0 ip pj jz with l2 | l2
  · exact (a4 e).2.2 d i p j l2 d0 d1 i0 ip pj jz b w
  · exact absurd l2 b
theorem gd_goesOn {m : gh_M} {G : gm_G} {z : Int} {t : Int → Int} {Q : Int → gh_M → Prop} (hG : gm_ok G) (hD : gm_D m G) (ht : gd_t m z t) (hs : gd_snd G z t m) {r : Int} (r0 : 0 ≤ r) (r1 : r < gm_R G) (h : ∀ v m1, gd_st G z t r m (fun _ _ _ _ => True) v m1 → (v = 0 → ∀ k, 0 ≤ k → k < 81 → m 98 (405 * r + 81 * gm_s G r + k) ≠ 0 → m 97 (81 * gm_o G r + k) ≠ 0) → Q v m1) : w_Model_goesOn r m Q := by
  have hN := hG.2.1
  have hR := hG.2.2.2.1
  obtain ⟨p1, p2, p3, p4, p5⟩ := hG.2.2.2.2.1 r r0 r1
  have z0 := ht.2.1
  have z8 := ht.2.2.1
  have d63 : ∀ m1, gx [97, 98] m m1 → m1 63 = m 63 ∧ m1 79 = m 79 ∧ m1 80 = m 80 ∧ m1 81 = m 81 ∧ m1 96 = m 96 := fun m1 hx => ⟨hx 63 (by decide), hx 79 (by decide), hx 80 (by decide), hx 81 (by decide), hx 96 (by decide)⟩
  have ez := ht.1
  obtain ⟨eo, es, ep⟩ := hD.2.2 r r0 r1
  refine ⟨fun v d m1 => 0 ≤ d ∧ d ≤ gm_s G r ∧ gd_st G z t r m (fun d' _ _ _ => d' < d) v m1, fun _ d _ => (10 - d).toNat, ⟨by omega, p3, gx_sub (S := []) gx_rf (by decide), hs, Or.inl rfl, fun _ => ⟨rfl, rfl, fun d i p j l => by omega⟩, Nat.le_refl _, fun e => absurd e (by decide)⟩, ?_⟩
  rintro v d m1 ⟨d0, d1, st⟩
  obtain ⟨f63, f79, f80, f81, f96⟩ := d63 m1 st.1
  unfold f_Model_goesOn_4
  rw [f80, es]
  refine ⟨r0, by omega, fun c => ?_, fun c => ?_⟩
  · refine ⟨fun v i m2 => 0 ≤ i ∧ i ≤ z + 1 ∧ gd_st G z t r m (fun d' i' _ _ => d' < d ∨ (d' = d ∧ i' < i)) v m2, fun _ i _ => (20 - i).toNat, ⟨by omega, by omega, gd_st_w st (fun _ d' i' p' j' l _ _ _ _ _ _ => Or.inl (by omega))⟩, ?_⟩
    rintro v2 i m2 ⟨i0, i1, st2⟩
    obtain ⟨g63, g79, g80, g81, g96⟩ := d63 m2 st2.1
    unfold f_Model_goesOn_17
    rw [g63, ez]
    refine ⟨fun c2 => ?_, fun c2 => ⟨by omega, ⟨by omega, by omega, gd_st_w st2 (fun _ d' i' p' j' l _ _ _ _ _ _ => Or.inl (by omega))⟩, by (try dsimp only); omega⟩⟩
    refine ⟨fun v p m3 => i ≤ p ∧ p ≤ z + 1 ∧ gd_st G z t r m (fun d' i' p' _ => d' < d ∨ (d' = d ∧ (i' < i ∨ (i' = i ∧ p' < p)))) v m3, fun _ p _ => (20 - p).toNat, ⟨by omega, by omega, gd_st_w st2 (fun _ d' i' p' j' l _ _ _ _ _ _ => Or.inl (by omega))⟩, ?_⟩
    rintro v3 p m3 ⟨ip, pz, st3⟩
    obtain ⟨h63, h79, h80, h81, h96⟩ := d63 m3 st3.1
    unfold f_Model_goesOn_30
    rw [h63, ez]
    refine ⟨fun c3 => ?_, fun c3 => ⟨by omega, ⟨by omega, by omega, gd_st_w st3 (fun _ d' i' p' j' l _ _ _ _ _ _ => Or.inl (by omega))⟩, by (try dsimp only); omega⟩⟩
    refine ⟨fun v j m4 => p ≤ j ∧ j ≤ z + 1 ∧ gd_st G z t r m (fun d' i' p' j' => d' < d ∨ (d' = d ∧ (i' < i ∨ (i' = i ∧ (p' < p ∨ (p' = p ∧ j' < j)))))) v m4, fun _ j _ => (20 - j).toNat, ⟨by omega, by omega, gd_st_w st3 (fun _ d' i' p' j' l _ _ _ _ _ _ => Or.inl (by omega))⟩, ?_⟩
    rintro v4 j m4 ⟨pj, jz, st4⟩
    obtain ⟨k63, k79, k80, k81, k96⟩ := d63 m4 st4.1
    have ht4 : gd_t m4 z t := by
      unfold gd_t
      rw [k63, k96]
      exact ht
    have dp : 4 * r + d = 4 * r + d := rfl
    have ip2 : ∀ y, y = ((((405 * r) + (81 * d)) + (9 * i)) + p) → y = 405 * r + 81 * d + 9 * i + p := fun _ e => e
    unfold f_Model_goesOn_43
    rw [k63, ez, k81, ep d d0 c]
    refine ⟨fun v' m5 => gd_st G z t r m (fun d' i' p' _ => d' < d ∨ (d' = d ∧ (i' < i ∨ (i' = i ∧ p' < p + 1)))) v' m5, fun v' m5 st5 => ⟨by omega, ⟨by omega, by omega, st5⟩, by (try dsimp only); omega⟩, fun c4 => ⟨by omega, by omega, by omega⟩, fun c4 => gd_st_w st4 (fun e d' i' p' j' l _ _ _ _ _ _ => ?_), fun c4 => ?_⟩
    · by_cases w : d' = d ∧ i' = i ∧ p' = p ∧ j ≤ j'
      · obtain ⟨w1, w2, w3, w4⟩ := w
        have b0 : m4 98 (405 * r + 81 * d + 9 * i + p) = 0 := by omega
        rw [(st4.2.2.2.1 e).2.1] at b0
        rw [w1, w2, w3]
        exact Or.inr b0
      · exact Or.inl (by omega)
    · have c5 : j ≤ z := by omega
      have bn : m4 98 (405 * r + 81 * d + 9 * i + p) ≠ 0 := fun y => c4 (Or.inr y)
      obtain ⟨pk, px⟩ := gd_partMakes hG ht4 st4.2.1 r0 r1 d0 c (by omega : 0 ≤ p) pj c5
      refine ⟨by omega, ⟨by omega, by omega, by omega, by omega, by omega, by omega⟩, by omega, by omega, fun v' m5 => gd_st G z t r m (fun d' i' p' j' => d' < d ∨ (d' = d ∧ (i' < i ∨ (i' = i ∧ (p' < p ∨ (p' = p ∧ j' < j + 1)))))) v' m5, fun v' m5 st5 => ⟨by omega, ⟨by omega, by omega, st5⟩, by (try dsimp only); omega⟩, fun _ => ⟨by omega, by omega, by omega, by omega, pk⟩, fun c6 => ?_, fun c6 => ⟨by omega, ⟨by omega, by omega, by omega, by omega, by omega, by omega⟩, by omega, by omega, ?_⟩⟩
      · obtain ⟨a1, a2, a3, a4, a5, a6⟩ := st4
        refine ⟨a1, a2, a3, fun e => ⟨(a4 e).1, (a4 e).2.1, fun d' i' p' j' l x0 x1 x2 x3 x4 x5 b w => ?_⟩, a5, a6⟩
        by_cases q : d' = d ∧ i' = i ∧ p' = p ∧ j' = j
        · obtain ⟨q1, q2, q3, q4⟩ := q
          rw [q1, q2, q4]
          rcases c6 with c6 | c6
          · rw [(a4 e).2.1] at c6
            exact c6
          · refine absurd (px.mpr ?_) (fun y => y c6)
            rw [q1, q3, q4] at w
            unfold gd_mk at w ⊢
            rw [(a4 e).1]
            exact w
        · exact (a4 e).2.2 d' i' p' j' (by omega) x0 x1 x2 x3 x4 x5 b w
      · have cz : m4 98 (405 * r + 81 * (d + 1) + 9 * i + j) = 0 := Classical.byContradiction (fun y => c6 (Or.inl y))
        have cp : gt_pm G z t (gd_mk m4) r d p j := px.mp (fun y => c6 (Or.inr y))
        obtain ⟨a1, a2, a3, a4, a5, a6⟩ := st4
        have row := a2.2.2.2.1 r d i p r0 r1 d0 (by omega) i0 (by omega) (by omega) (by omega) bn
        have rowj : gt_row G z t (gt_M G z t) r (d + 1) i j := by
          rw [gt_row_s d0]
          refine ⟨p, row.2, gt_pm_mono (fun nn y => ?_) cp⟩
          have w := gm_n_rng hG r0 r1 d0 c
          exact a2.2.2.1 _ p j (by omega) (by omega) (by omega) (by omega) (by omega) (by omega) y
        have up : gd_cn m4 < gd_cn (gh_u m4 98 (405 * r + 81 * (d + 1) + 9 * i + j) 1) := by
          unfold gd_cn
          rw [gm_u_row2 (by decide), gm_u_rowa]
          have := gq_ct_up (T := 8100) (A := m4 98) (x := 405 * r + 81 * (d + 1) + 9 * i + j) (by omega) (by omega) cz
          omega
        refine ⟨gx_u a1 (by decide), ⟨?_, ?_, ?_, ?_, ?_⟩, Or.inr rfl, fun e => absurd e (by decide), by omega, fun _ => by omega⟩
        · rw [gm_u_row2 (by decide)]
          exact a2.1
        · rw [gm_u_rowa]
          intro x x0 x1
          unfold gm_upd
          split
          · exact Or.inr rfl
          · exact a2.2.1 x x0 x1
        · rw [gm_u_row2 (by decide)]
          exact a2.2.2.1
        · intro r' d' i' j' y0 y1 y2 y3 y4 y5 y6 y7 y8
          by_cases q : 405 * r' + 81 * d' + 9 * i' + j' = 405 * r + 81 * (d + 1) + 9 * i + j
          · have s4 := (hG.2.2.2.2.1 r' y0 y1).2.2.2.1
            have q1 : r' = r := by omega
            subst q1
            have q2 : d' = d + 1 := by omega
            have q3 : i' = i := by omega
            have q4 : j' = j := by omega
            rw [q2, q3, q4]
            exact ⟨row.1, rowj⟩
          · rw [gh_u_i q] at y8
            exact a2.2.2.2.1 r' d' i' j' y0 y1 y2 y3 y4 y5 y6 y7 y8
        · intro r' i' y0 y1 y2 y3
          by_cases q : 405 * r' + 81 * 0 + 9 * i' + i' = 405 * r + 81 * (d + 1) + 9 * i + j
          · rw [q, gh_u_s]
            decide
          · rw [gh_u_i q]
            exact a2.2.2.2.2 r' i' y0 y1 y2 y3
  · have ed : d = gm_s G r := by omega
    have stT : gd_st G z t r m (fun _ _ _ _ => True) v m1 := gd_st_w st (fun _ d' i' p' j' _ _ x _ _ _ _ => Or.inl (by omega))
    refine ⟨fun v k m2 => 0 ≤ k ∧ k ≤ 81 ∧ gd_st G z t r m (fun _ _ _ _ => True) v m2 ∧ (v = 0 → ∀ k', 0 ≤ k' → k' < k → m 98 (405 * r + 81 * gm_s G r + k') ≠ 0 → m 97 (81 * gm_o G r + k') ≠ 0), fun _ k _ => (100 - k).toNat, ⟨by omega, by omega, stT, fun _ k' x y => by omega⟩, ?_⟩
    rintro v2 k m2 ⟨k0, k1, st2, hk⟩
    obtain ⟨g63, g79, g80, g81, g96⟩ := d63 m2 st2.1
    unfold f_Model_goesOn_154
    rw [g80, g79, es, eo]
    refine ⟨fun c2 => ⟨by omega, r0, by omega, by omega, by omega, by omega, by omega, by omega, fun v' m3 => gd_st G z t r m (fun _ _ _ _ => True) v' m3 ∧ (v' = 0 → ∀ k', 0 ≤ k' → k' < k + 1 → m 98 (405 * r + 81 * gm_s G r + k') ≠ 0 → m 97 (81 * gm_o G r + k') ≠ 0), fun v' m3 j => ⟨by omega, ⟨by omega, by omega, j.1, j.2⟩, by (try dsimp only); omega⟩, fun _ => ⟨r0, by omega, by omega, by omega, by omega, by omega⟩, fun c3 => ⟨r0, by omega, by omega, by omega, by omega, by omega, ?_, fun e => absurd e (by decide)⟩, fun c3 => ⟨st2, fun e k' x0 x1 y => ?_⟩⟩, fun c2 => ⟨st2.2.2.1, h v2 m2 st2 (fun e k' x0 x1 => hk e k' x0 (by omega))⟩⟩
    · obtain ⟨a1, a2, a3, a4, a5, a6⟩ := st2
      have up : gd_cn m2 < gd_cn (gh_u m2 97 (81 * gm_o G r + k) 1) := by
        unfold gd_cn
        rw [gm_u_rowa, gm_u_row2 (by decide)]
        have := gq_ct_up (T := 648) (A := m2 97) (x := 81 * gm_o G r + k) (by omega) (by omega) c3.2
        omega
      have idx : 405 * r + 81 * gm_s G r + k = 405 * r + 81 * gm_s G r + 9 * (k / 9) + k % 9 := by omega
      have bn := c3.1
      rw [idx] at bn
      have row := a2.2.2.2.1 r (gm_s G r) (k / 9) (k % 9) r0 r1 p3 (by omega) (by omega) (by omega) (by omega) (by omega) bn
      refine ⟨gx_u a1 (by decide), ⟨?_, ?_, ?_, ?_, ?_⟩, Or.inr rfl, fun e => absurd e (by decide), by omega, fun _ => by omega⟩
      · rw [gm_u_rowa]
        intro x x0 x1
        unfold gm_upd
        split
        · exact Or.inr rfl
        · exact a2.1 x x0 x1
      · rw [gm_u_row2 (by decide)]
        exact a2.2.1
      · intro n i j y0 y1 y2 y3 y4 y5 y6
        by_cases q : 81 * n + 9 * i + j = 81 * gm_o G r + k
        · have q1 : n = gm_o G r := by omega
          have q2 : i = k / 9 := by omega
          have q3 : j = k % 9 := by omega
          rw [q1, q2, q3]
          exact gt_M_cl r _ _ r0 r1 (by omega) row.1 row.2
        · rw [gh_u_i q] at y6
          exact a2.2.2.1 n i j y0 y1 y2 y3 y4 y5 y6
      · rw [gm_u_row2 (by decide)]
        exact a2.2.2.2.1
      · rw [gm_u_row2 (by decide)]
        exact a2.2.2.2.2
    · by_cases q : k' = k
      · have a4 := st2.2.2.2.1 e
        rw [q] at y ⊢
        rw [← a4.2.1] at y
        rw [← a4.1]
        exact fun w => c3 ⟨y, w⟩
      · exact hk e k' x0 (by omega) y
