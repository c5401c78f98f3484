/-! THE CLASS'S LETTERS THAT MAY COME -/
theorem gt_enter33 {m : gh_M} {G : gm_G} {Q : Int → gh_M → Prop} (hG : gm_ok G) (hC : gm_C m G) (ht : gt_t m) (hs : gt_full G m) (hn : ∀ k, 0 ≤ k → k ≤ 8 → gbs 8 (m 33 k)) {r d P : Int} (r0 : 0 ≤ r) (r1 : r < gm_R G) (d0 : 0 ≤ d) (d1 : d < gm_s G r) (hP : gbs 9 P) (h : ∀ V m1, gx [33] m m1 → gbs 9 V → (∀ q, 0 ≤ q → (gb V q ↔ ∃ p, 0 ≤ p ∧ p ≤ m 26 3 ∧ gb P p ∧ gt_pm G (m 26 3) (m 27) (gt_tab G m) r d p q)) → (∀ k, 0 ≤ k → k ≤ 8 → gbs 8 (m1 33 k) ∧ ∀ c, 0 ≤ c → (gb (m1 33 k) c ↔ gb (m 33 k) c ∨ (k ≤ m 26 3 ∧ c = gm_n G r d ∧ gb P k))) → Q V m1) : w_Chart_enter_33 (gm_p G r d) P m Q := by
  have hN := hG.2.1
  obtain ⟨k1, x1⟩ := gm_nameOf hG hC r0 r1 d0 d1
  have w := gm_n_rng hG r0 r1 d0 d1
  have ht2 := ht.2.1
  refine ⟨k1, ?_⟩
  rintro _ rfl
  rw [x1]
  refine ⟨fun k m1 => 0 ≤ k ∧ k ≤ m 26 3 + 1 ∧ gx [33] m m1 ∧ (∀ e, 0 ≤ e → e ≤ 8 → gbs 8 (m1 33 e) ∧ ∀ c, 0 ≤ c → (gb (m1 33 e) c ↔ gb (m 33 e) c ∨ (e < k ∧ c = gm_n G r d ∧ gb P e))), fun k _ => (20 - k).toNat, ⟨by omega, by have := ht.1; omega, gx_rf, fun e e0 e1 => ⟨hn e e0 e1, fun c c0 => ⟨Or.inl, fun y => y.elim id (fun u => by omega)⟩⟩⟩, ?_⟩
  rintro k m1 ⟨k0, k2, hx, he⟩
  have e26 : m1 26 = m 26 := hx 26 (by decide)
  have e27 : m1 27 = m 27 := hx 27 (by decide)
  have e31 : m1 31 = m 31 := hx 31 (by decide)
  have hC1 := gm_C_x hx (by decide) hC
  have ht1 : gt_t m1 := by
    unfold gt_t
    rw [e26, e27]
    exact ht
  have tabs : ∀ n i j, gt_tab G m1 n i j ↔ gt_tab G m n i j := fun n i j => by
    unfold gt_tab
    rw [e31]
  have hs1 : gt_ts G m1 := by
    refine ⟨?_, fun n i j y => ?_⟩
    · rw [e31]
      exact hs.1
    · rw [e26, e27]
      exact (hs.2 n i j).mp ((tabs n i j).mp y)
  unfold f_Chart_enter_33_13
  rw [e26]
  refine ⟨fun m2 => m2 = m1 ∧ (¬ k ≤ m 26 3 ∨ gm_n G r d = -1), ?_, fun c => ⟨rfl, c⟩, fun c => ?_⟩
  · rintro m2 ⟨e, c⟩
    rw [e]
    refine gt_beyond hG hC1 ht1 hs1 r0 r1 d0 d1 hP (fun V v1 v2 => h V m1 hx v1 (fun q q0 => ?_) (fun e e0 e1 => ⟨(he e e0 e1).1, fun c c0 => ?_⟩))
    · rw [v2 q q0, e26, e27]
      constructor
      · rintro ⟨p, y1, y2, y3, y4⟩
        exact ⟨p, y1, y2, y3, gt_pm_mono (fun _ y => (tabs _ _ _).mp y) y4⟩
      · rintro ⟨p, y1, y2, y3, y4⟩
        exact ⟨p, y1, y2, y3, gt_pm_mono (fun _ y => (tabs _ _ _).mpr y) y4⟩
    · rw [(he e e0 e1).2 c c0]
      refine or_congr Iff.rfl ⟨fun y => ⟨by omega, y.2⟩, fun y => ⟨by omega, y.2⟩⟩
  · have nn : 0 ≤ gm_n G r d ∧ gm_n G r d < gm_N G := by omega
    obtain ⟨b1, b2⟩ := gt_put (n := gm_n G r d) (gbs_le hP (by decide : 9 ≤ 31)) k0 (by omega) nn.1 (by omega)
    have hk := (he k k0 (by omega)).1
    refine ⟨by omega, by omega, by omega, by omega, by omega, ⟨by omega, by omega, gx_u hx (List.mem_singleton.mpr rfl), fun e e0 e1 => ?_⟩, by (try dsimp only); omega⟩
    by_cases q : e = k
    · subst q
      rw [gh_u_s]
      refine ⟨gbs_or (by decide) hk b1, fun c c0 => ?_⟩
      rw [gb_ior (by decide : 8 ≤ 31) hk b1, (he e e0 e1).2 c c0, b2 c c0]
      constructor
      · rintro ((y | y) | y)
        · exact Or.inl y
        · exact Or.inr ⟨by omega, y.2⟩
        · exact Or.inr ⟨by omega, y⟩
      · rintro (y | y)
        · exact Or.inl (Or.inl y)
        · exact Or.inr y.2
    · rw [gh_u_i q]
      refine ⟨(he e e0 e1).1, fun c c0 => ?_⟩
      rw [(he e e0 e1).2 c c0]
      exact or_congr Iff.rfl ⟨fun y => ⟨by omega, y.2⟩, fun y => ⟨by omega, y.2⟩⟩
/-- the letters c at k: of a set that stands next there, in a useful rule -/
def gt_nx (G : gm_G) (z : Int) (t : Int → Int) (PR : Int → Int → Prop) (k c : Int) : Prop := ∃ r i d, PR r i ∧ 0 ≤ d ∧ d < gm_s G r ∧ gm_n G r d = -1 ∧ gb (gm_p G r d) c ∧ gt_row G z t (gt_M G z t) r d i k
theorem gt_look {m : gh_M} {G : gm_G} {Q : Int → gh_M → Prop} (hG : gm_ok G) (hC : gm_C m G) (ht : gt_t m) (hs : gt_full G m) (hn : ∀ k, 0 ≤ k → k ≤ 8 → gbs 8 (m 33 k)) (hi : ∀ k, 0 ≤ k → k ≤ 8 → gbs 26 (m 35 k)) {r i : Int} (r0 : 0 ≤ r) (r1 : r < gm_R G) (i0 : 0 ≤ i) (i1 : i ≤ m 26 3) (h : ∀ m1, gx [33, 35] m m1 → (∀ k, 0 ≤ k → k ≤ 8 → gbs 26 (m1 35 k) ∧ ∀ c, 0 ≤ c → (gb (m1 35 k) c ↔ gb (m 35 k) c ∨ ∃ d, 0 ≤ d ∧ d < gm_s G r ∧ gm_n G r d = -1 ∧ gb (gm_p G r d) c ∧ gt_row G (m 26 3) (m 27) (gt_M G (m 26 3) (m 27)) r d i k)) → (∀ k, 0 ≤ k → k ≤ 8 → gbs 8 (m1 33 k) ∧ ∀ c, 0 ≤ c → (gb (m1 33 k) c ↔ gb (m 33 k) c ∨ (∃ d, 0 ≤ d ∧ d < gm_s G r ∧ c = gm_n G r d ∧ gt_row G (m 26 3) (m 27) (gt_M G (m 26 3) (m 27)) r d i k))) → Q 0 m1) : w_Chart_lookAhead_33 r i m Q := by
  have hN := hG.2.1
  have hR := hG.2.2.2.1
  obtain ⟨p1, p2, p3, p4, p5⟩ := hG.2.2.2.2.1 r r0 r1
  have ht0 := ht.1
  have ht2 := ht.2.1
  have b1 : gbs 9 (gh_ishl_f 1 i) := gbs_one i0 (by omega) (by decide)
  have rng : ∀ d k, gt_row G (m 26 3) (m 27) (gt_M G (m 26 3) (m 27)) r d i k → i ≤ k ∧ k ≤ m 26 3 := fun d k y => gt_row_M hG i1 y
  unfold w_Chart_lookAhead_33
  rintro _ rfl
  refine ⟨fun P d m1 => 0 ≤ d ∧ d ≤ gm_s G r ∧ (gbs 9 P ∧ ∀ q, 0 ≤ q → (gb P q ↔ gt_row G (m 26 3) (m 27) (gt_M G (m 26 3) (m 27)) r d i q)) ∧ gx [33, 35] m m1 ∧ (∀ k, 0 ≤ k → k ≤ 8 → gbs 26 (m1 35 k) ∧ ∀ c, 0 ≤ c → (gb (m1 35 k) c ↔ gb (m 35 k) c ∨ ∃ e, 0 ≤ e ∧ e < d ∧ gm_n G r e = -1 ∧ gb (gm_p G r e) c ∧ gt_row G (m 26 3) (m 27) (gt_M G (m 26 3) (m 27)) r e i k)) ∧ ∀ k, 0 ≤ k → k ≤ 8 → gbs 8 (m1 33 k) ∧ ∀ c, 0 ≤ c → (gb (m1 33 k) c ↔ gb (m 33 k) c ∨ (∃ e, 0 ≤ e ∧ e < d ∧ c = gm_n G r e ∧ gt_row G (m 26 3) (m 27) (gt_M G (m 26 3) (m 27)) r e i k)), fun _ d _ => (10 - d).toNat, ⟨by omega, by omega, ⟨b1, fun q q0 => ?_⟩, gx_rf, fun k k0 k1 => ⟨hi k k0 k1, fun c c0 => ⟨Or.inl, fun y => y.elim id (fun ⟨e, u1, u2, _⟩ => by omega)⟩⟩, fun k k0 k1 => ⟨hn k k0 k1, fun c c0 => ⟨Or.inl, fun y => y.elim id (fun ⟨e, u1, u2, _⟩ => by omega)⟩⟩⟩, ?_⟩
  · rw [gb_ishl1 i0 (by omega) q0, gt_row_0]
    exact eq_comm
  rintro P d m1 ⟨d0, d1, ⟨hP1, hP2⟩, hx, ha, hb⟩
  have c1 := gm_C_x hx (by decide) hC
  unfold f_Chart_lookAhead_33_8
  rw [(c1.2.2 r r0 r1).2.1]
  refine ⟨r0, by omega, fun c => ?_, fun c => ?_⟩
  · obtain ⟨kk, xx⟩ := gm_partAt hG c1 r0 r1 d0 c
    refine ⟨kk, ?_⟩
    rintro _ rfl
    rw [xx]
    have pp := gm_p_n hG r0 r1 d0 c
    refine ⟨fun k m2 => i ≤ k ∧ k ≤ m 26 3 + 1 ∧ gx [35] m1 m2 ∧ ∀ e, 0 ≤ e → e ≤ 8 → gbs 26 (m2 35 e) ∧ ∀ x, 0 ≤ x → (gb (m2 35 e) x ↔ gb (m1 35 e) x ∨ (e < k ∧ gm_n G r d = -1 ∧ gb (gm_p G r d) x ∧ gt_row G (m 26 3) (m 27) (gt_M G (m 26 3) (m 27)) r d i e)), fun k _ => (20 - k).toNat, ⟨by omega, by omega, gx_rf, fun e e0 e1 => ⟨(ha e e0 e1).1, fun x x0 => ⟨Or.inl, fun y => y.elim id (fun ⟨u1, u2, u3, u4⟩ => ?_)⟩⟩⟩, ?_⟩
    · have := rng d e u4
      omega
    rintro k m2 ⟨k0, k1, hx2, he⟩
    have hx02 : gx [33, 35] m m2 := gx_tr (T := [35]) hx (gx_sub hx2 (by decide))
    have c2 := gm_C_x hx02 (by decide) hC
    have f26 : m2 26 = m 26 := hx02 26 (by decide)
    have f27 : m2 27 = m 27 := hx02 27 (by decide)
    have f31 : m2 31 = m 31 := hx02 31 (by decide)
    have f33 : m2 33 = m1 33 := hx2 33 (by decide)
    unfold f_Chart_lookAhead_33_37
    rw [f26]
    have tst := gt_test (i := k) (gbs_le hP1 (by decide : 9 ≤ 31)) (by omega) (by omega)
    refine ⟨fun m3 => m3 = m2 ∧ (¬ k ≤ m 26 3 ∨ gm_p G r d ≤ 0), ?_, fun c3 => ⟨rfl, c3⟩, fun c3 => ?_⟩
    · rintro m3 ⟨e3, c3⟩
      rw [e3]
      have hs2 : gt_full G m2 := by
        unfold gt_full gt_tab
        rw [f26, f27, f31]
        exact hs
      have ht3 : gt_t m2 := by
        unfold gt_t
        rw [f26, f27]
        exact ht
      refine gt_enter33 hG c2 ht3 hs2 (fun k k0 k1 => by rw [f33]; exact (hb k k0 k1).1) r0 r1 d0 c hP1 (fun V m4 y1 y2 y3 y4 => ⟨by omega, ⟨by omega, by omega, ⟨y2, fun q q0 => ?_⟩, gx_tr (T := [33]) hx02 (gx_sub y1 (by decide)), fun e e0 e1 => ?_, fun e e0 e1 => ⟨(y4 e e0 e1).1, fun x x0 => ?_⟩⟩, by (try dsimp only); omega⟩)
      · rw [y3 q q0, gt_row_s d0, f26, f27]
        have tm : ∀ p, gt_pm G (m 26 3) (m 27) (gt_tab G m2) r d p q ↔ gt_pm G (m 26 3) (m 27) (gt_M G (m 26 3) (m 27)) r d p q := fun p => by
          have := hs2.2
          rw [f26, f27] at this
          exact ⟨gt_pm_mono (fun _ => (this _ _ _).mp), gt_pm_mono (fun _ => (this _ _ _).mpr)⟩
        constructor
        · rintro ⟨p, w1, w2, w3, w4⟩
          exact ⟨p, (hP2 p w1).mp w3, (tm p).mp w4⟩
        · rintro ⟨p, w1, w2⟩
          have := rng d p w1
          exact ⟨p, by omega, this.2, (hP2 p (by omega)).mpr w1, (tm p).mpr w2⟩
      · rw [y1 35 (by decide)]
        refine ⟨(he e e0 e1).1, fun x x0 => ?_⟩
        rw [(he e e0 e1).2 x x0, (ha e e0 e1).2 x x0]
        constructor
        · rintro ((w | ⟨g, g1, g2, g3⟩) | ⟨w1, w2, w3, w4⟩)
          · exact Or.inl w
          · exact Or.inr ⟨g, g1, by omega, g3⟩
          · exact Or.inr ⟨d, d0, by omega, w2, w3, w4⟩
        · rintro (w | ⟨g, g1, g2, g3, g4, g5⟩)
          · exact Or.inl (Or.inl w)
          · by_cases q : g = d
            · subst q
              have := rng _ _ g5
              exact Or.inr ⟨by omega, g3, g4, g5⟩
            · exact Or.inl (Or.inr ⟨g, g1, by omega, g3, g4, g5⟩)
      · rw [(y4 e e0 e1).2 x x0, f33, (hb e e0 e1).2 x x0, f26]
        constructor
        · rintro ((w | ⟨g, g1, g2, g4, g5⟩) | ⟨w1, w2, w3⟩)
          · exact Or.inl w
          · exact Or.inr ⟨g, g1, by omega, g4, g5⟩
          · exact Or.inr ⟨d, d0, by omega, w2, (hP2 e e0).mp w3⟩
        · rintro (w | ⟨g, g1, g2, g4, g5⟩)
          · exact Or.inl (Or.inl w)
          · by_cases q : g = d
            · subst q
              exact Or.inr ⟨(rng _ _ g5).2, g4, (hP2 e e0).mpr g5⟩
            · exact Or.inl (Or.inr ⟨g, g1, by omega, g4, g5⟩)
    · have c4 : k ≤ m 26 3 ∧ 0 < gm_p G r d := by omega
      have ns : gm_n G r d = -1 := by omega
      have pb : gbs 26 (gm_p G r d) := ⟨by omega, by omega⟩
      have vb : gbs 26 (if gh_iand_f (gh_ishr_f P k) 1 = 0 then 0 else gm_p G r d) ∧ ∀ x, 0 ≤ x → (gb (if gh_iand_f (gh_ishr_f P k) 1 = 0 then 0 else gm_p G r d) x ↔ gb P k ∧ gb (gm_p G r d) x) := by
        rw [tst]
        by_cases q : gb P k
        · rw [gt_ib_t q, if_neg (by decide)]
          exact ⟨pb, fun x _ => ⟨fun w => ⟨q, w⟩, fun w => w.2⟩⟩
        · rw [gt_ib_f q, if_pos rfl]
          exact ⟨gbs_0 _, fun x _ => ⟨fun w => absurd w (gb_0 x), fun w => absurd w.1 q⟩⟩
      have hk := (he k (by omega) (by omega)).1
      refine ⟨by omega, by omega, by omega, by omega, by omega, ⟨by omega, by omega, gx_u hx2 (List.mem_singleton.mpr rfl), fun e e0 e1 => ?_⟩, by (try dsimp only); omega⟩
      by_cases q : e = k
      · subst q
        rw [gh_u_s]
        refine ⟨gbs_or (by decide) hk vb.1, fun x x0 => ?_⟩
        rw [gb_ior (by decide : 26 ≤ 31) hk vb.1, (he e e0 e1).2 x x0, vb.2 x x0, hP2 e e0]
        constructor
        · rintro ((w | ⟨w1, _⟩) | ⟨w1, w2⟩)
          · exact Or.inl w
          · omega
          · exact Or.inr ⟨by omega, ns, w2, w1⟩
        · rintro (w | ⟨_, _, w2, w1⟩)
          · exact Or.inl (Or.inl w)
          · exact Or.inr ⟨w1, w2⟩
      · rw [gh_u_i q]
        refine ⟨(he e e0 e1).1, fun x x0 => ?_⟩
        rw [(he e e0 e1).2 x x0]
        exact or_congr Iff.rfl ⟨fun w => ⟨by omega, w.2⟩, fun w => ⟨by omega, w.2⟩⟩
  · have e : d = gm_s G r := by omega
    subst e
    exact h m1 hx ha hb

