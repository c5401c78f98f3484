/-! CHANGES: the model's way -/
def gs_K (m : gh_M) (n i j : Int) : Int := m 102 (81 * n + 9 * i + j)
theorem gs_or {P R : Prop} : gh_ior_f (gt_ib P) (gt_ib R) = gt_ib (P ∨ R) := by
  by_cases p : P
  · rw [gt_ib_t p, gt_ib_t (P := P ∨ R) (Or.inl p)]
    rcases gt_ib_01 (P := R) with u | u <;> rw [u] <;> decide +kernel
  · rw [gt_ib_f p]
    by_cases r : R
    · rw [gt_ib_t r, gt_ib_t (P := P ∨ R) (Or.inr r)]
      decide +kernel
    · rw [gt_ib_f r, gt_ib_f (P := P ∨ R) (fun y => y.elim p r)]
      decide +kernel
theorem gs_costOf {m : gh_M} {G : gm_G} {z : Int} {t : Int → Int} {Q : Int → Prop} (hG : gm_ok G) (ht : gd_t m z t) {r d p q : Int} (r0 : 0 ≤ r) (r1 : r < gm_R G) (d0 : 0 ≤ d) (d1 : d < gm_s G r) (p0 : 0 ≤ p) (pq : p ≤ q) (q1 : q ≤ z) (h : Q (gr_pc G t (gs_K m) r d p q)) : w_Model_costOf (gm_p G r d) p q m Q := by
  have hN := hG.2.1
  obtain ⟨t1, t2, t3, t4⟩ := ht
  have w := gm_p_n hG r0 r1 d0 d1
  refine ⟨fun c => ⟨by omega, by omega, by omega, by omega, by omega, by omega, by omega, ?_⟩, fun c => ?_⟩
  · have e : gr_pc G t (gs_K m) r d p q = m 102 (81 * (-1 - gm_p G r d) + 9 * p + q) := by
      unfold gr_pc gs_K
      rw [if_neg (by omega)]
      have : gm_n G r d = -1 - gm_p G r d := by omega
      rw [this]
    rw [← e]
    exact h
  · have n1 : gm_n G r d = -1 := by omega
    refine ⟨fun f k => p ≤ k ∧ k ≤ q ∧ f = gt_ib (gr_ft G t r d p k), fun _ k => (20 - k).toNat, ⟨by omega, pq, (gt_ib_f (fun ⟨l, a, b, _⟩ => by omega)).symm⟩, ?_⟩
    rintro f k ⟨k0, k1, hf⟩
    unfold f_Model_costOf_29
    have f01 := gt_ib_01 (P := gr_ft G t r d p k)
    refine ⟨fun c2 => ⟨by omega, by omega, ?_⟩, fun c2 => ⟨fun _ => ⟨by omega, by omega⟩, ?_⟩⟩
    · rintro _ rfl
      have tt := t4 k (by omega) (by omega)
      rw [tt.1]
      refine ⟨by omega, ⟨by omega, by omega, ?_⟩, by (try dsimp only); omega⟩
      rw [gt_test (x := gm_p G r d) (i := t k) ⟨by omega, by omega⟩ tt.2.1 (by omega), hf, gs_or]
      refine gt_ib_cg ⟨fun y => ?_, fun ⟨l, a, b, y⟩ => ?_⟩
      · rcases y with ⟨l, a, b, y⟩ | y
        · exact ⟨l, a, by omega, y⟩
        · exact ⟨k, k0, by omega, y⟩
      · by_cases e : l = k
        · rw [e] at y
          exact Or.inr y
        · exact Or.inl ⟨l, a, by omega, y⟩
    · have kq : k = q := by omega
      have e : (if p = q then (1 : Int) else q - p - f) = gr_pc G t (gs_K m) r d p q := by
        unfold gr_pc
        rw [if_pos n1, hf, kq]
        by_cases e : p = q
        · have e3 : gt_ib (gr_ft G t r d p q) = 0 := gt_ib_f (fun ⟨l, a, b, _⟩ => by omega)
          rw [if_pos e, e3]
          omega
        · rw [if_neg e]
          omega
      rw [e]
      exact h
def gs_YZ (G : gm_G) (z : Int) (t : Int → Int) (Z : Int → Int → Int → Int) (Y : Int → Int → Int → Int → Int) : Prop := ∀ r, 0 ≤ r → r < gm_R G → (∀ d i p j, 0 ≤ d → d < gm_s G r → 0 ≤ i → i ≤ p → p ≤ j → j ≤ z → Y r (d + 1) i j ≤ min (Y r d i p + gr_pc G t Z r d p j) 1000000000) ∧ ∀ i j, 0 ≤ i → i ≤ j → j ≤ z → Z (gm_o G r) i j ≤ Y r (gm_s G r) i j
/-- nothing too small is told -/
def gs_snd (G : gm_G) (z : Int) (Z : Int → Int → Int → Int) (Y : Int → Int → Int → Int → Int) (m : gh_M) : Prop := (∀ x, 0 ≤ x → x < 648 → 0 ≤ m 102 x ∧ m 102 x ≤ 1000000000) ∧ (∀ x, 0 ≤ x → x < 8100 → 0 ≤ m 103 x ∧ m 103 x ≤ 1000000000) ∧ (∀ n i j, 0 ≤ n → n < gm_N G → 0 ≤ i → i ≤ j → j ≤ z → Z n i j ≤ m 102 (81 * n + 9 * i + j)) ∧ (∀ r d i j, 0 ≤ r → r < gm_R G → 0 ≤ d → d ≤ gm_s G r → 0 ≤ i → i ≤ j → j ≤ z → Y r d i j ≤ m 103 (405 * r + 81 * d + 9 * i + j)) ∧ ∀ r i j, 0 ≤ r → r < gm_R G → 0 ≤ i → i ≤ j → j ≤ z → m 103 (405 * r + 81 * 0 + 9 * i + j) ≤ j - i
def gs_cn (m : gh_M) : Nat := gm_sum (m 102) 648 + gm_sum (m 103) 8100
def gs_cl (G : gm_G) (t : Int → Int) (r d i p j : Int) (m : gh_M) : Prop := m 103 (405 * r + 81 * (d + 1) + 9 * i + j) ≤ min (m 103 (405 * r + 81 * d + 9 * i + p) + gr_pc G t (gs_K m) r d p j) 1000000000
def gs_st (G : gm_G) (z : Int) (t : Int → Int) (Z : Int → Int → Int → Int) (Y : Int → Int → Int → Int → Int) (r : Int) (m0 : gh_M) (L : Int → Int → Int → Int → Prop) (v : Int) (m : gh_M) : Prop := gx [102, 103] m0 m ∧ gs_snd G z Z Y m ∧ (v = 0 ∨ v = 1) ∧ (v = 0 → m 102 = m0 102 ∧ m 103 = m0 103 ∧ ∀ d i p j, L d i p j → 0 ≤ d → d < gm_s G r → 0 ≤ i → i ≤ p → p ≤ j → j ≤ z → gs_cl G t r d i p j m0) ∧ gs_cn m ≤ gs_cn m0 ∧ (v = 1 → gs_cn m < gs_cn m0)
theorem gs_st_w {G : gm_G} {z : Int} {t : Int → Int} {Z : Int → Int → Int → Int} {Y : Int → Int → Int → Int → Int} {r : Int} {m0 m : gh_M} {L L2 : Int → Int → Int → Int → Prop} {v : Int} (h : gs_st G z t Z Y r m0 L v m) (hL : ∀ d i p j, L2 d i p j → 0 ≤ d → d < gm_s G r → 0 ≤ i → i ≤ p → p ≤ j → j ≤ z → L d i p j) : gs_st G z t Z Y r m0 L2 v m := by
  obtain ⟨a1, a2, a3, a4, a5, a6⟩ := h
  exact ⟨a1, a2, a3, fun e => ⟨(a4 e).1, (a4 e).2.1, fun d i p j l d0 d1 i0 ip pj jz => (a4 e).2.2 d i p j (hL d i p j l d0 d1 i0 ip pj jz) d0 d1 i0 ip pj jz⟩, a5, a6⟩
theorem gm_sum_upd {A : Int → Int} {T : Nat} {x v : Int} (x0 : 0 ≤ x) (x1 : x < T) (v0 : 0 ≤ v) (h : v < A x) : gm_sum (gm_upd A x v) T < gm_sum A T := by
  refine gm_sum_lt (L := gm_upd A x v) (Z := A) T (fun y _ _ => ?_) x x0 x1 ?_ ?_
  · unfold gm_upd
    split
    · next e =>
      rw [e]
      omega
    · exact Int.le_refl _
  · unfold gm_upd
    rw [if_pos rfl]
    exact v0
  · unfold gm_upd
    rw [if_pos rfl]
    exact h
theorem gs_ne {r r2 d i j i2 j2 : Int} (d0 : 0 ≤ d) (d1 : d ≤ 3) (i0 : 0 ≤ i) (j0 : 0 ≤ j) (i8 : i ≤ 8) (j8 : j ≤ 8) (a0 : 0 ≤ i2) (b0 : 0 ≤ j2) (a8 : i2 ≤ 8) (b8 : j2 ≤ 8) : 405 * r2 + 81 * 0 + 9 * i2 + j2 ≠ 405 * r + 81 * (d + 1) + 9 * i + j := by omega
theorem gs_pc_le {G : gm_G} {t : Int → Int} {C D : Int → Int → Int → Int} {r d e k : Int} (h : gm_n G r d ≠ -1 → C (gm_n G r d) e k ≤ D (gm_n G r d) e k) : gr_pc G t C r d e k ≤ gr_pc G t D r d e k := by
  unfold gr_pc
  split
  · exact Int.le_refl _
  · next q => exact h q
theorem gs_betters {m : gh_M} {G : gm_G} {z : Int} {t : Int → Int} {Z : Int → Int → Int → Int} {Y : Int → Int → Int → Int → Int} {Q : Int → gh_M → Prop} (hG : gm_ok G) (hD : gm_D m G) (ht : gd_t m z t) (hYZ : gs_YZ G z t Z Y) (hs : gs_snd G z Z Y m) {r : Int} (r0 : 0 ≤ r) (r1 : r < gm_R G) (h : ∀ v m1, gs_st G z t Z Y r m (fun _ _ _ _ => True) v m1 → (v = 0 → ∀ k, 0 ≤ k → k < 81 → m 102 (81 * gm_o G r + k) ≤ m 103 (405 * r + 81 * gm_s G r + k)) → Q v m1) : w_Model_betters r m Q := by
  have hN := hG.2.1
  have hR := hG.2.2.2.1
  obtain ⟨p1, p2, p3, p4, p5⟩ := hG.2.2.2.2.1 r r0 r1
  have z0 := ht.2.1
  have z8 := ht.2.2.1
  have d63 : ∀ m1, gx [102, 103] m m1 → m1 63 = m 63 ∧ m1 79 = m 79 ∧ m1 80 = m 80 ∧ m1 81 = m 81 ∧ m1 96 = m 96 := fun m1 hx => ⟨hx 63 (by decide), hx 79 (by decide), hx 80 (by decide), hx 81 (by decide), hx 96 (by decide)⟩
  have ez := ht.1
  obtain ⟨eo, es, ep⟩ := hD.2.2 r r0 r1
  refine ⟨fun v d m1 => 0 ≤ d ∧ d ≤ gm_s G r ∧ gs_st G z t Z Y r m (fun d' _ _ _ => d' < d) v m1, fun _ d _ => (10 - d).toNat, ⟨by omega, p3, gx_sub (S := []) gx_rf (by decide), hs, Or.inl rfl, fun _ => ⟨rfl, rfl, fun d i p j l => by omega⟩, Nat.le_refl _, fun e => absurd e (by decide)⟩, ?_⟩
  rintro v d m1 ⟨d0, d1, st⟩
  obtain ⟨f63, f79, f80, f81, f96⟩ := d63 m1 st.1
  unfold f_Model_betters_4
  rw [f80, es]
  refine ⟨r0, by omega, fun c => ?_, fun c => ?_⟩
  · refine ⟨fun v i m2 => 0 ≤ i ∧ i ≤ z + 1 ∧ gs_st G z t Z Y r m (fun d' i' _ _ => d' < d ∨ (d' = d ∧ i' < i)) v m2, fun _ i _ => (20 - i).toNat, ⟨by omega, by omega, gs_st_w st (fun d' i' p' j' l _ _ _ _ _ _ => by omega)⟩, ?_⟩
    rintro v2 i m2 ⟨i0, i1, st2⟩
    obtain ⟨g63, g79, g80, g81, g96⟩ := d63 m2 st2.1
    unfold f_Model_betters_17
    rw [g63, ez]
    refine ⟨fun c2 => ?_, fun c2 => ⟨by omega, ⟨by omega, by omega, gs_st_w st2 (fun d' i' p' j' l _ _ _ _ _ _ => by omega)⟩, by (try dsimp only); omega⟩⟩
    refine ⟨fun v p m3 => i ≤ p ∧ p ≤ z + 1 ∧ gs_st G z t Z Y r m (fun d' i' p' _ => d' < d ∨ (d' = d ∧ (i' < i ∨ (i' = i ∧ p' < p)))) v m3, fun _ p _ => (20 - p).toNat, ⟨by omega, by omega, gs_st_w st2 (fun d' i' p' j' l _ _ _ _ _ _ => by omega)⟩, ?_⟩
    rintro v3 p m3 ⟨ip, pz, st3⟩
    obtain ⟨h63, h79, h80, h81, h96⟩ := d63 m3 st3.1
    unfold f_Model_betters_30
    rw [h63, ez]
    refine ⟨fun c3 => ?_, fun c3 => ⟨by omega, ⟨by omega, by omega, gs_st_w st3 (fun d' i' p' j' l _ _ _ _ _ _ => by omega)⟩, by (try dsimp only); omega⟩⟩
    refine ⟨fun v j m4 => p ≤ j ∧ j ≤ z + 1 ∧ gs_st G z t Z Y r m (fun d' i' p' j' => d' < d ∨ (d' = d ∧ (i' < i ∨ (i' = i ∧ (p' < p ∨ (p' = p ∧ j' < j)))))) v m4, fun _ j _ => (20 - j).toNat, ⟨by omega, by omega, gs_st_w st3 (fun d' i' p' j' l _ _ _ _ _ _ => by omega)⟩, ?_⟩
    rintro v4 j m4 ⟨pj, jz, st4⟩
    obtain ⟨k63, k79, k80, k81, k96⟩ := d63 m4 st4.1
    have ht4 : gd_t m4 z t := by
      unfold gd_t
      rw [k63, k96]
      exact ht
    unfold f_Model_betters_43
    rw [k63, ez, k81, ep d d0 c]
    refine ⟨fun c4 => ⟨⟨by omega, by omega, by omega, by omega, by omega, by omega⟩, by omega, by omega, by omega, by omega, by omega, by omega, ?_⟩, fun c4 => ⟨by omega, ⟨by omega, by omega, gs_st_w st4 (fun d' i' p' j' l _ _ _ _ _ _ => by omega)⟩, by (try dsimp only); omega⟩⟩
    refine gs_costOf hG ht4 r0 r1 d0 c (by omega) pj c4 ?_
    obtain ⟨a1, a2, a3, a4, a5, a6⟩ := st4
    have pc0 : 0 ≤ gr_pc G t (gs_K m4) r d p j := gr_pc_0 hG r0 r1 d0 c (fun n n0 n1 => (a2.1 _ (by omega) (by omega)).1)
    have pc1 : gr_pc G t (gs_K m4) r d p j ≤ 1000000000 := by
      unfold gr_pc gs_K
      have nn := gm_n_rng hG r0 r1 d0 c
      have f01 := gt_ib_01 (P := gr_ft G t r d p j)
      split
      · omega
      · exact (a2.1 _ (by omega) (by omega)).2
    have b0 := a2.2.1 (405 * r + 81 * d + 9 * i + p) (by omega) (by omega)
    have its : x_Model_sumOf (m4 103 (405 * r + 81 * d + 9 * i + p)) (gr_pc G t (gs_K m4) r d p j) = min (m4 103 (405 * r + 81 * d + 9 * i + p) + gr_pc G t (gs_K m4) r d p j) 1000000000 := by
      unfold x_Model_sumOf
      split <;> omega
    rw [its]
    refine ⟨⟨by omega, fun _ => by omega⟩, ?_⟩
    rintro _ rfl
    refine ⟨by omega, ⟨by omega, by omega, by omega, by omega, by omega, by omega⟩, by omega, by omega, fun v' m5 => gs_st G z t Z Y r m (fun d' i' p' j' => d' < d ∨ (d' = d ∧ (i' < i ∨ (i' = i ∧ (p' < p ∨ (p' = p ∧ j' < j + 1)))))) v' m5, fun v' m5 st5 => ⟨by omega, ⟨by omega, by omega, st5⟩, by (try dsimp only); omega⟩, fun c6 => ⟨by omega, ⟨by omega, by omega, by omega, by omega, by omega, by omega⟩, by omega, by omega, ?_⟩, fun c6 => ?_⟩
    · have lt := gm_sum_upd (A := m4 103) (T := 8100) (x := 405 * r + 81 * (d + 1) + 9 * i + j) (v := min (m4 103 (405 * r + 81 * d + 9 * i + p) + gr_pc G t (gs_K m4) r d p j) 1000000000) (by omega) (by omega) (by omega) c6
      have up : gs_cn (gh_u m4 103 (405 * r + 81 * (d + 1) + 9 * i + j) (min (m4 103 (405 * r + 81 * d + 9 * i + p) + gr_pc G t (gs_K m4) r d p j) 1000000000)) < gs_cn m4 := by
        unfold gs_cn
        rw [gm_u_row2 (by decide), gm_u_rowa]
        omega
      refine ⟨gx_u a1 (by decide), ⟨?_, ?_, ?_, ?_, ?_⟩, Or.inr rfl, fun e => absurd e (by decide), by omega, fun _ => by omega⟩
      · rw [gm_u_row2 (by decide)]
        exact a2.1
      · rw [gm_u_rowa]
        intro x x0 x1
        have := a2.2.1 x x0 x1
        unfold gm_upd
        split <;> omega
      · rw [gm_u_row2 (by decide)]
        exact a2.2.2.1
      · intro r' d' i' j' y0 y1 y2 y3 y4 y5 y6
        by_cases q : 405 * r' + 81 * d' + 9 * i' + j' = 405 * r + 81 * (d + 1) + 9 * i + j
        · have s4 := (hG.2.2.2.2.1 r' y0 y1).2.2.2.1
          have q1 : r' = r := by omega
          subst q1
          have q2 : d' = d + 1 := by omega
          have q3 : i' = i := by omega
          have q4 : j' = j := by omega
          rw [q2, q3, q4, gh_u_s]
          have b1 := (hYZ r' y0 y1).1 d i p j d0 c i0 ip pj c4
          have b2 := a2.2.2.2.1 r' d i p y0 y1 d0 (by omega) i0 ip (by omega)
          have b3 := gs_pc_le (G := G) (t := t) (C := Z) (D := gs_K m4) (r := r') (d := d) (e := p) (k := j) (fun nn => by
            have w := gm_n_rng hG y0 y1 d0 c
            exact a2.2.2.1 _ p j (by omega) (by omega) (by omega) pj c4)
          omega
        · rw [gh_u_i q]
          exact a2.2.2.2.1 r' d' i' j' y0 y1 y2 y3 y4 y5 y6
      · intro r' i' j' y0 y1 y2 y3 y4
        rw [gh_u_i (gs_ne d0 (by omega) i0 (by omega) (by omega) (by omega) y2 (by omega) (by omega) (by omega))]
        exact a2.2.2.2.2 r' i' j' y0 y1 y2 y3 y4
    · refine ⟨a1, a2, a3, fun e => ⟨(a4 e).1, (a4 e).2.1, fun d' i' p' j' l x0 x1 x2 x3 x4 x5 => ?_⟩, a5, a6⟩
      by_cases q : d' = d ∧ i' = i ∧ p' = p ∧ j' = j
      · obtain ⟨q1, q2, q3, q4⟩ := q
        rw [q1, q2, q3, q4]
        have e2 := (a4 e).1
        have e3 := (a4 e).2.1
        unfold gs_cl
        have e4 : gs_K m4 = gs_K m := by
          funext a b cc
          unfold gs_K
          rw [e2]
        rw [e3, e4] at c6
        omega
      · exact (a4 e).2.2 d' i' p' j' (by omega) x0 x1 x2 x3 x4 x5
  · have ed : d = gm_s G r := by omega
    have stT : gs_st G z t Z Y r m (fun _ _ _ _ => True) v m1 := gs_st_w st (fun d' i' p' j' _ _ x _ _ _ _ => by omega)
    refine ⟨fun v k m2 => 0 ≤ k ∧ k ≤ 81 ∧ gs_st G z t Z Y r m (fun _ _ _ _ => True) v m2 ∧ (v = 0 → ∀ k', 0 ≤ k' → k' < k → m 102 (81 * gm_o G r + k') ≤ m 103 (405 * r + 81 * gm_s G r + k')), fun _ k _ => (100 - k).toNat, ⟨by omega, by omega, stT, fun _ k' x y => by omega⟩, ?_⟩
    rintro v2 k m2 ⟨k0, k1, st2, hk⟩
    obtain ⟨g63, g79, g80, g81, g96⟩ := d63 m2 st2.1
    unfold f_Model_betters_156
    rw [g80, g79, es, eo]
    refine ⟨fun c2 => ⟨by omega, r0, by omega, by omega, by omega, by omega, by omega, by omega, ?_⟩, fun c2 => ⟨st2.2.2.1, h v2 m2 st2 (fun e k' x0 x1 => hk e k' x0 (by omega))⟩⟩
    rintro _ rfl
    refine ⟨r0, by omega, by omega, by omega, by omega, by omega, fun v' m3 => gs_st G z t Z Y r m (fun _ _ _ _ => True) v' m3 ∧ (v' = 0 → ∀ k', 0 ≤ k' → k' < k + 1 → m 102 (81 * gm_o G r + k') ≤ m 103 (405 * r + 81 * gm_s G r + k')), fun v' m3 j => ⟨by omega, ⟨by omega, by omega, j.1, j.2⟩, by (try dsimp only); omega⟩, fun c3 => ⟨r0, by omega, by omega, by omega, by omega, by omega, ?_, fun e => absurd e (by decide)⟩, fun c3 => ⟨st2, fun e k' x0 x1 => ?_⟩⟩
    · obtain ⟨a1, a2, a3, a4, a5, a6⟩ := st2
      have b0 := a2.2.1 (405 * r + 81 * gm_s G r + k) (by omega) (by omega)
      have lt := gm_sum_upd (A := m2 102) (T := 648) (x := 81 * gm_o G r + k) (v := m2 103 (405 * r + 81 * gm_s G r + k)) (by omega) (by omega) (by omega) c3
      have up : gs_cn (gh_u m2 102 (81 * gm_o G r + k) (m2 103 (405 * r + 81 * gm_s G r + k))) < gs_cn m2 := by
        unfold gs_cn
        rw [gm_u_rowa, gm_u_row2 (by decide)]
        omega
      refine ⟨gx_u a1 (by decide), ⟨?_, ?_, ?_, ?_, ?_⟩, Or.inr rfl, fun e => absurd e (by decide), by omega, fun _ => by omega⟩
      · rw [gm_u_rowa]
        intro x x0 x1
        have := a2.1 x x0 x1
        unfold gm_upd
        split <;> omega
      · rw [gm_u_row2 (by decide)]
        exact a2.2.1
      · intro n i j y0 y1 y2 y3 y4
        by_cases q : 81 * n + 9 * i + j = 81 * gm_o G r + k
        · have q1 : n = gm_o G r := by omega
          have q2 : k = 9 * i + j := by omega
          rw [q, gh_u_s, q1, q2, ← Int.add_assoc]
          exact Int.le_trans ((hYZ r r0 r1).2 i j y2 y3 y4) (a2.2.2.2.1 r (gm_s G r) i j r0 r1 p3 (Int.le_refl _) y2 y3 y4)
        · rw [gh_u_i q]
          exact a2.2.2.1 n i j y0 y1 y2 y3 y4
      · rw [gm_u_row2 (by decide)]
        exact a2.2.2.2.1
      · rw [gm_u_row2 (by decide)]
        exact a2.2.2.2.2
    · by_cases q : k' = k
      · have a4 := st2.2.2.2.1 e
        rw [a4.1, a4.2.1] at c3
        rw [q]
        omega
      · exact hk e k' x0 (by omega)
