/-! ITEMS OF A RULE -/
theorem gt_ic_s {G : gm_G} {z : Int} {t : Int → Int} {r i k d : Int} (d0 : 0 ≤ d) : gt_ic G z t r i k (d + 1).toNat = gt_ic G z t r i k d.toNat + gt_ib (gt_row G z t (gt_M G z t) r d i k) := by
  have e : (d + 1).toNat = d.toNat + 1 := by omega
  have e2 : ((d.toNat : Nat) : Int) = d := by omega
  unfold gt_ic
  rw [e]
  show gsum _ d.toNat + gt_ib (gt_row G z t (gt_M G z t) r (d.toNat : Nat) i k) = _
  rw [e2]
theorem gt_through {m : gh_M} {G : gm_G} {Q : Int → gh_M → Prop} (hG : gm_ok G) (hC : gm_C m G) (ht : gt_t m) (hs : gt_full G m) (hn : ∀ k, 0 ≤ k → k ≤ 8 → gbs 8 (m 32 k)) (hi : ∀ k, 0 ≤ k → k ≤ 8 → 0 ≤ m 34 k ∧ m 34 k ≤ 100000) {r i : Int} (r0 : 0 ≤ r) (r1 : r < gm_R G) (i0 : 0 ≤ i) (i1 : i ≤ m 26 3) (h : ∀ m1, gx [32, 34] m m1 → (∀ k, 0 ≤ k → k ≤ 8 → m1 34 k = m 34 k + gt_ic G (m 26 3) (m 27) r i k (gm_s G r + 1).toNat) → (∀ k, 0 ≤ k → k ≤ 8 → gbs 8 (m1 32 k) ∧ ∀ c, 0 ≤ c → (gb (m1 32 k) c ↔ gb (m 32 k) c ∨ (∃ d, 0 ≤ d ∧ d < gm_s G r ∧ c = gm_n G r d ∧ gt_row G (m 26 3) (m 27) (gt_M G (m 26 3) (m 27)) r d i k))) → Q 0 m1) : w_Chart_goThrough_32 r i m Q := by
  have hN := hG.2.1
  have hR := hG.2.2.2.1
  obtain ⟨p1, p2, p3, p4, p5⟩ := hG.2.2.2.2.1 r r0 r1
  have ht0 := ht.1
  have ht2 := ht.2.1
  have b1 : gbs 9 (gh_ishl_f 1 i) := gbs_one i0 (by omega) (by decide)
  have rng : ∀ d k, gt_row G (m 26 3) (m 27) (gt_M G (m 26 3) (m 27)) r d i k → i ≤ k ∧ k ≤ m 26 3 := fun d k y => gt_row_M hG i1 y
  unfold w_Chart_goThrough_32
  rintro _ rfl
  refine ⟨fun P d m1 => 0 ≤ d ∧ d ≤ gm_s G r + 1 ∧ (d ≤ gm_s G r → gbs 9 P ∧ ∀ q, 0 ≤ q → (gb P q ↔ gt_row G (m 26 3) (m 27) (gt_M G (m 26 3) (m 27)) r d i q)) ∧ gx [32, 34] m m1 ∧ (∀ k, 0 ≤ k → k ≤ 8 → m1 34 k = m 34 k + gt_ic G (m 26 3) (m 27) r i k d.toNat) ∧ ∀ k, 0 ≤ k → k ≤ 8 → gbs 8 (m1 32 k) ∧ ∀ c, 0 ≤ c → (gb (m1 32 k) c ↔ gb (m 32 k) c ∨ (∃ e, 0 ≤ e ∧ e < d ∧ e < gm_s G r ∧ c = gm_n G r e ∧ gt_row G (m 26 3) (m 27) (gt_M G (m 26 3) (m 27)) r e i k)), fun _ d _ => (10 - d).toNat, ⟨by omega, by omega, fun _ => ⟨b1, fun q q0 => ?_⟩, gx_rf, fun k _ _ => ?_, fun k k0 k1 => ⟨hn k k0 k1, fun c c0 => ⟨Or.inl, fun y => y.elim id (fun ⟨e, u1, u2, _⟩ => by omega)⟩⟩⟩, ?_⟩
  · rw [gb_ishl1 i0 (by omega) q0, gt_row_0]
    exact eq_comm
  · show m 34 k = m 34 k + 0
    omega
  rintro P d m1 ⟨d0, d1, hP, hx, ha, hb⟩
  have c1 := gm_C_x hx (by decide) hC
  have e26 : m1 26 = m 26 := hx 26 (by decide)
  unfold f_Chart_goThrough_32_8
  rw [(c1.2.2 r r0 r1).2.1]
  refine ⟨r0, by omega, fun c => ?_, fun c => h m1 hx (fun k k0 k1 => ?_) (fun k k0 k1 => ⟨(hb k k0 k1).1, fun x x0 => ?_⟩)⟩
  · obtain ⟨hP1, hP2⟩ := hP c
    refine ⟨fun k m2 => i ≤ k ∧ k ≤ m 26 3 + 1 ∧ gx [34] m1 m2 ∧ ∀ e, 0 ≤ e → e ≤ 8 → m2 34 e = m1 34 e + (if e < k then gt_ib (gt_row G (m 26 3) (m 27) (gt_M G (m 26 3) (m 27)) r d i e) else 0), fun k _ => (20 - k).toNat, ⟨by omega, by omega, gx_rf, fun e e0 e1 => ?_⟩, ?_⟩
    · by_cases q : e < i
      · rw [if_pos q, gt_ib_f (fun y => by have := rng d e y; omega)]
        omega
      · rw [if_neg q]
        omega
    rintro k m2 ⟨k0, k1, hx2, he⟩
    have hx02 : gx [32, 34] m m2 := gx_tr (T := [34]) hx (gx_sub hx2 (by decide))
    have c2 := gm_C_x hx02 (by decide) hC
    have f26 : m2 26 = m 26 := hx02 26 (by decide)
    have f27 : m2 27 = m 27 := hx02 27 (by decide)
    have f31 : m2 31 = m 31 := hx02 31 (by decide)
    have f32 : m2 32 = m1 32 := hx2 32 (by decide)
    unfold f_Chart_goThrough_32_25
    rw [f26, (c2.2.2 r r0 r1).2.1]
    refine ⟨fun c3 => ?_, fun c3 => ⟨r0, by omega, ?_⟩⟩
    · have tst := gt_test (i := k) (gbs_le hP1 (by decide : 9 ≤ 31)) (by omega) (by omega)
      have a1 := ha k (by omega) (by omega)
      have a2 := he k (by omega) (by omega)
      have a3 := hi k (by omega) (by omega)
      have a4 := gt_ic_b (G := G) (z := m 26 3) (t := m 27) (r := r) (i := i) (k := k) d.toNat
      rw [if_neg (by omega)] at a2
      rw [tst]
      have a5 := gt_ib_01 (P := gb P k)
      refine ⟨by omega, by omega, by omega, by omega, by omega, by omega, ⟨by omega, by omega, gx_u hx2 (List.mem_singleton.mpr rfl), fun e e0 e1 => ?_⟩, by (try dsimp only); omega⟩
      by_cases q : e = k
      · subst q
        rw [gh_u_s, if_pos (by omega), a2, gt_ib_cg (hP2 e e0)]
        omega
      · rw [gh_u_i q, he e e0 e1]
        by_cases q2 : e < k
        · rw [if_pos q2, if_pos (by omega)]
        · rw [if_neg q2, if_neg (by omega)]
    · have an : ∀ e, 0 ≤ e → e ≤ 8 → m2 34 e = m 34 e + gt_ic G (m 26 3) (m 27) r i e (d + 1).toNat := fun e e0 e1 => by
        rw [he e e0 e1, ha e e0 e1, gt_ic_s d0]
        by_cases q : e < k
        · rw [if_pos q]
          omega
        · rw [if_neg q, gt_ib_f (fun y => by have := rng d e y; omega)]
          omega
      have hs2 : gt_full G m2 := by
        unfold gt_full gt_tab
        rw [f26, f27, f31]
        exact hs
      have ht3 : gt_t m2 := by
        unfold gt_t
        rw [f26, f27]
        exact ht
      refine ⟨fun P' m3 => gx [32, 34] m m3 ∧ (d + 1 ≤ gm_s G r → gbs 9 P' ∧ ∀ q, 0 ≤ q → (gb P' q ↔ gt_row G (m 26 3) (m 27) (gt_M G (m 26 3) (m 27)) r (d + 1) i q)) ∧ m3 34 = m2 34 ∧ ∀ k, 0 ≤ k → k ≤ 8 → gbs 8 (m3 32 k) ∧ ∀ c, 0 ≤ c → (gb (m3 32 k) c ↔ gb (m 32 k) c ∨ (∃ e, 0 ≤ e ∧ e < d + 1 ∧ e < gm_s G r ∧ c = gm_n G r e ∧ gt_row G (m 26 3) (m 27) (gt_M G (m 26 3) (m 27)) r e i k)), ?_, fun c4 => ?_, fun c4 => ⟨hx02, fun y => by omega, rfl, fun e e0 e1 => ?_⟩⟩
      · rintro P' m3 ⟨j1, j2, j3, j4⟩
        refine ⟨by omega, ⟨by omega, by omega, j2, j1, fun e e0 e1 => ?_, j4⟩, by (try dsimp only); omega⟩
        rw [j3]
        exact an e e0 e1
      · obtain ⟨kk, xx⟩ := gm_partAt hG c2 r0 r1 d0 c4
        refine ⟨kk, ?_⟩
        rw [xx]
        refine gt_enter32 hG c2 ht3 hs2 (fun k k0 k1 => by rw [f32]; exact (hb k k0 k1).1) r0 r1 d0 c4 hP1 (fun V m3 y1 y2 y3 y4 => ⟨gx_tr (T := [32]) hx02 (gx_sub y1 (by decide)), fun _ => ⟨y2, fun q q0 => ?_⟩, y1 34 (by decide), fun e e0 e1 => ⟨(y4 e e0 e1).1, fun x x0 => ?_⟩⟩)
        · rw [y3 q q0, gt_row_s d0, f26, f27]
          have tm : ∀ p, gt_pm G (m 26 3) (m 27) (gt_tab G m2) r d p q ↔ gt_pm G (m 26 3) (m 27) (gt_M G (m 26 3) (m 27)) r d p q := fun p => by
            have := hs2.2
            rw [f26, f27] at this
            exact ⟨gt_pm_mono (fun _ => (this _ _ _).mp), gt_pm_mono (fun _ => (this _ _ _).mpr)⟩
          constructor
          · rintro ⟨p, w1, w2, w3, w4⟩
            exact ⟨p, (hP2 p w1).mp w3, (tm p).mp w4⟩
          · rintro ⟨p, w1, w2⟩
            have := rng d p w1
            exact ⟨p, by omega, this.2, (hP2 p (by omega)).mpr w1, (tm p).mpr w2⟩
        · rw [(y4 e e0 e1).2 x x0, f32, (hb e e0 e1).2 x x0, f26]
          constructor
          · rintro ((w | ⟨g, g1, g2, g3, g4, g5⟩) | ⟨w1, w2, w3⟩)
            · exact Or.inl w
            · exact Or.inr ⟨g, g1, by omega, g3, g4, g5⟩
            · exact Or.inr ⟨d, d0, by omega, c4, w2, (hP2 e e0).mp w3⟩
          · rintro (w | ⟨g, g1, g2, g3, g4, g5⟩)
            · exact Or.inl (Or.inl w)
            · by_cases q : g = d
              · subst q
                exact Or.inr ⟨(rng _ _ g5).2, g4, (hP2 e e0).mpr g5⟩
              · exact Or.inl (Or.inr ⟨g, g1, by omega, g3, g4, g5⟩)
      · rw [f32]
        refine ⟨(hb e e0 e1).1, fun x x0 => ?_⟩
        rw [(hb e e0 e1).2 x x0]
        refine or_congr Iff.rfl ⟨fun ⟨g, g1, g2, g3, g4⟩ => ⟨g, g1, by omega, g3, g4⟩, fun ⟨g, g1, g2, g3, g4⟩ => ⟨g, g1, by omega, g3, g4⟩⟩
  · have e : d = gm_s G r + 1 := by omega
    rw [← e]
    exact ha k k0 k1
  · rw [(hb k k0 k1).2 x x0]
    refine or_congr Iff.rfl ⟨fun ⟨g, g1, g2, g3, g4⟩ => ⟨g, g1, g3, g4⟩, fun ⟨g, g1, g3, g4⟩ => ⟨g, g1, by omega, g3, g4⟩⟩

