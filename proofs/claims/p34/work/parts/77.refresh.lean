/-- the chart is that of the grammar and the text -/
def gt_ch (G : gm_G) (m : gh_M) : Prop := gt_full G m ∧ (∀ k, 0 ≤ k → k ≤ 8 → gbs 8 (m 32 k) ∧ ∀ c, 0 ≤ c → (gb (m 32 k) c ↔ gt_S G (m 26 3) (m 27) (fun _ => True) True c k)) ∧ (∀ k, 0 ≤ k → k ≤ 8 → m 34 k = gt_isum G (m 26 3) (m 27) (fun r i => 0 ≤ r ∧ r < gm_R G ∧ gt_S G (m 26 3) (m 27) (fun _ => True) True (gm_o G r) i) k) ∧ ∀ k, 0 ≤ k → k ≤ m 26 3 → gbs 27 (m 35 k) ∧ ∀ c, 0 ≤ c → (gb (m 35 k) c ↔ gt_nx G (m 26 3) (m 27) (fun r i => 0 ≤ r ∧ r < gm_R G ∧ gb (m 20 5) r ∧ gt_S G (m 26 3) (m 27) (gb (m 20 5)) True (gm_o G r) i) k c ∨ (c = 26 ∧ gt_M G (m 26 3) (m 27) 0 0 k))
theorem gt_end {x k : Int} (hx : gbs 31 x) (h0 : 0 ≤ k) (h1 : k < 32) : gbs 27 (gh_ishl_f (gh_iand_f (gh_ishr_f x k) 1) 26) ∧ ∀ c, 0 ≤ c → (gb (gh_ishl_f (gh_iand_f (gh_ishr_f x k) 1) 26) c ↔ c = 26 ∧ gb x k) := by
  rw [gt_test hx h0 h1]
  by_cases q : gb x k
  · rw [gt_ib_t q]
    refine ⟨gbs_one (by decide) (by decide) (by decide), fun c c0 => ?_⟩
    rw [gb_ishl1 (by decide) (by decide) c0]
    exact ⟨fun y => ⟨y, q⟩, fun y => y.1⟩
  · rw [gt_ib_f q]
    have e : gh_ishl_f 0 26 = 0 := by decide +kernel
    rw [e]
    exact ⟨gbs_0 _, fun c c0 => ⟨fun y => absurd y (gb_0 c), fun y => absurd y.2 q⟩⟩
theorem gt_refresh {m : gh_M} {G : gm_G} {Q : Int → gh_M → Prop} (hG : gm_ok G) (hC : gm_C m G) (ht : gt_t m) (hU : gbs 20 (m 20 5)) (hf : m 30 3 ≠ 0 → gt_ch G m) (h : ∀ m1, gx [30, 31, 32, 33, 34, 35] m m1 → m1 30 3 ≠ 0 → (m1 30 3 = m 30 3 ∨ m1 30 3 = 1) → gt_ch G m1 → Q 0 m1) : w_Chart_refresh m Q := by
  have hN0 := hG.1
  have hN := hG.2.1
  have ht0 := ht.1
  have ht2 := ht.2.1
  refine ⟨fun c => ?_, fun c => h m (gx_sub (S := []) gx_rf (by decide)) c (Or.inl rfl) (hf c)⟩
  have x0 : gx [30, 31] m (gh_fil (gh_u m 30 3 1) 31 72 0) := gx_fil (gx_u gx_rf (by decide)) (by decide)
  have z0 : ∀ x, 0 ≤ x → x < 72 → (gh_fil (gh_u m 30 3 1) 31 72 0) 31 x = 0 := fun x a b => by
    unfold gh_fil
    rw [if_pos ⟨rfl, a, b⟩]
  have f0 : (gh_fil (gh_u m 30 3 1) 31 72 0) 30 3 = 1 := by
    unfold gh_fil
    rw [if_neg (fun y => absurd y.1 (by decide)), gh_u_s]
  rintro _ rfl
  have e26 := x0 26 (by decide)
  rw [e26]
  refine ⟨fun i m1 => -1 ≤ i ∧ i ≤ m 26 3 ∧ gx [30, 31] m m1 ∧ m1 30 3 = 1 ∧ gt_ts G m1 ∧ ∀ e, i < e → e ≤ m 26 3 → gt_ci G m1 e, fun i _ => (i + 2).toNat, ⟨by omega, by omega, x0, f0, ⟨fun x a b => by rw [z0 x a b]; exact gbs_0 _, fun n i j w => ?_⟩, fun e a b => by omega⟩, ?_⟩
  · obtain ⟨w1, w2, w3, w4, w5, w6⟩ := w
    rw [z0 (n * 9 + i) (by omega) (by omega)] at w6
    exact absurd w6 (gb_0 j)
  rintro i m1 ⟨i0, i1, x1, f1, s1, c1⟩
  have g26 : m1 26 = m 26 := x1 26 (by decide)
  have g27 : m1 27 = m 27 := x1 27 (by decide)
  have hC1 := gm_C_x x1 (by decide) hC
  have ht1 : gt_t m1 := by
    unfold gt_t
    rw [g26, g27]
    exact ht
  unfold f_Chart_refresh_29
  refine ⟨fun c2 => ?_, fun c2 => ?_⟩
  · have full : gt_full G m1 := by
      refine ⟨s1.1, fun n i j => gt_M_eq s1.2 (fun r e j r0 r1 e0 e1 w => ?_)⟩
      rw [g26] at e1
      exact c1 e (by omega) e1 r j r0 r1 w
    have x2 : gx [30, 31, 34, 35] m (gh_fil (gh_fil m1 34 9 0) 35 9 0) := gx_fil (gx_fil (gx_sub x1 (by decide)) (by decide)) (by decide)
    have y26 := x2 26 (by decide)
    have y27 := x2 27 (by decide)
    have y31 : (gh_fil (gh_fil m1 34 9 0) 35 9 0) 31 = m1 31 := by
      have : gx [34, 35] m1 (gh_fil (gh_fil m1 34 9 0) 35 9 0) := gx_fil (gx_fil gx_rf (by decide)) (by decide)
      exact this 31 (by decide)
    have y30 : (gh_fil (gh_fil m1 34 9 0) 35 9 0) 30 = m1 30 := by
      have : gx [34, 35] m1 (gh_fil (gh_fil m1 34 9 0) 35 9 0) := gx_fil (gx_fil gx_rf (by decide)) (by decide)
      exact this 30 (by decide)
    have z34 : ∀ k, 0 ≤ k → k ≤ 8 → (gh_fil (gh_fil m1 34 9 0) 35 9 0) 34 k = 0 := fun k a b => by
      unfold gh_fil
      rw [if_neg (fun y => absurd y.1 (by decide)), if_pos ⟨rfl, a, by omega⟩]
    have z35 : ∀ k, 0 ≤ k → k ≤ 8 → (gh_fil (gh_fil m1 34 9 0) 35 9 0) 35 k = 0 := fun k a b => by
      unfold gh_fil
      rw [if_pos ⟨rfl, a, by omega⟩]
    have hC2 := gm_C_x x2 (by decide) hC
    have ht3 : gt_t (gh_fil (gh_fil m1 34 9 0) 35 9 0) := by
      unfold gt_t
      rw [y26, y27]
      exact ht
    have hs2 : gt_full G (gh_fil (gh_fil m1 34 9 0) 35 9 0) := by
      unfold gt_full gt_tab
      rw [y26, y27, y31, ← g26, ← g27]
      exact full
    refine gt_await32 hG hC2 ht3 hs2 z34 (fun m3 x3 n3 i3 => ?_)
    have x03 : gx [30, 31, 32, 34, 35] m m3 := gx_tr (T := [32, 34]) (gx_sub x2 (by decide)) (gx_sub x3 (by decide))
    have u26 := x03 26 (by decide)
    have u27 := x03 27 (by decide)
    have u31 := x3 31 (by decide)
    have u30 := x3 30 (by decide)
    have u20 := x03 20 (by decide)
    have u35 := x3 35 (by decide)
    rw [y26, y27] at n3 i3
    have hC3 := gm_C_x x03 (by decide) hC
    have ht4 : gt_t m3 := by
      unfold gt_t
      rw [u26, u27]
      exact ht
    have hs3 : gt_full G m3 := by
      unfold gt_full gt_tab
      rw [u26, u27, u31, y31, ← g26, ← g27]
      exact full
    refine gt_await33 hG hC3 ht4 hs3 (by rw [u20]; exact hU) (fun k a b => by rw [u35]; exact z35 k a b) (fun m4 x4 n4 i4 => ?_)
    have x04 : gx [30, 31, 32, 33, 34, 35] m m4 := gx_tr (T := [33, 35]) (gx_sub x03 (by decide)) (gx_sub x4 (by decide))
    rw [u26, u27, u20] at n4 i4
    have v26 := x04 26 (by decide)
    have v27 := x04 27 (by decide)
    have v20 := x04 20 (by decide)
    have v31 : m4 31 = m1 31 := ((x4 31 (by decide)).trans u31).trans y31
    have v30 : m4 30 = m1 30 := ((x4 30 (by decide)).trans u30).trans y30
    have v32 : m4 32 = m3 32 := x4 32 (by decide)
    have v34 : m4 34 = m3 34 := x4 34 (by decide)
    have b0 : gbs 31 (m1 31 0) := gbs_le (s1.1 0 (by decide) (by decide)) (by decide)
    refine ⟨fun k m5 => 0 ≤ k ∧ k ≤ m 26 3 + 1 ∧ gx [35] m4 m5 ∧ ∀ e, 0 ≤ e → e ≤ 8 → gbs 27 (m5 35 e) ∧ ∀ c, 0 ≤ c → (gb (m5 35 e) c ↔ gb (m4 35 e) c ∨ (e < k ∧ c = 26 ∧ gb (m1 31 0) e)), fun k _ => (20 - k).toNat, ⟨by omega, by omega, gx_rf, fun e e0 e1 => ⟨gbs_le (i4 e e0 e1).1 (by decide), fun c c0 => ⟨Or.inl, fun y => y.elim id (fun u => by omega)⟩⟩⟩, ?_⟩
    rintro k m5 ⟨k0, k1, x5, he⟩
    have x05 : gx [30, 31, 32, 33, 34, 35] m m5 := gx_tr (T := [35]) x04 (gx_sub x5 (by decide))
    have w26 := x05 26 (by decide)
    have w27 := x05 27 (by decide)
    have w20 := x05 20 (by decide)
    have w31 : m5 31 = m1 31 := (x5 31 (by decide)).trans v31
    have w30 : m5 30 = m1 30 := (x5 30 (by decide)).trans v30
    have w32 : m5 32 = m3 32 := (x5 32 (by decide)).trans v32
    have w34 : m5 34 = m3 34 := (x5 34 (by decide)).trans v34
    unfold f_Chart_refresh_80
    rw [w26, w31]
    refine ⟨fun c3 => ?_, fun c3 => h m5 x05 (by rw [w30, f1]; decide) (Or.inr (by rw [w30, f1])) ?_⟩
    · obtain ⟨t1, t2⟩ := gt_end b0 k0 (by omega)
      have hk := (he k k0 (by omega)).1
      refine ⟨by omega, by omega, by omega, by omega, by omega, ⟨by omega, by omega, gx_u x5 (List.mem_singleton.mpr rfl), fun e e0 e1 => ?_⟩, by (try dsimp only); omega⟩
      by_cases q : e = k
      · subst q
        rw [gh_u_s]
        refine ⟨gbs_or (by decide) hk t1, fun x xx => ?_⟩
        rw [gb_ior (by decide : 27 ≤ 31) hk t1, (he e e0 e1).2 x xx, t2 x xx]
        constructor
        · rintro ((w | ⟨w1, _⟩) | w)
          · exact Or.inl w
          · omega
          · exact Or.inr ⟨by omega, w⟩
        · rintro (w | w)
          · exact Or.inl (Or.inl w)
          · exact Or.inr w.2
      · rw [gh_u_i q]
        refine ⟨(he e e0 e1).1, fun x xx => ?_⟩
        rw [(he e e0 e1).2 x xx]
        exact or_congr Iff.rfl ⟨fun w => ⟨by omega, w.2⟩, fun w => ⟨by omega, w.2⟩⟩
    · unfold gt_ch
      rw [w26, w27, w20, w32, w34]
      refine ⟨?_, n3, i3, fun e e0 e1 => ⟨(he e e0 (by omega)).1, fun x xx => ?_⟩⟩
      · unfold gt_full gt_tab
        rw [w26, w27, w31, ← g26, ← g27]
        exact full
      · rw [(he e e0 (by omega)).2 x xx, (i4 e e0 (by omega)).2 x xx]
        refine or_congr Iff.rfl ?_
        have fe := full.2 0 0 e
        rw [g26, g27] at fe
        have fe2 : gt_tab G m1 0 0 e ↔ gb (m1 31 0) e := ⟨fun w => w.2.2.2.2.2, fun w => ⟨by omega, by omega, by omega, by omega, e0, w⟩⟩
        rw [← fe, fe2]
        exact ⟨fun w => w.2, fun w => ⟨by omega, w⟩⟩
  · have hi : 0 ≤ i := by omega
    refine gt_findEnds hG hC1 ht1 s1 hi (by rw [g26]; exact i1) (by rw [g26]; exact c1) (fun m2 x2 s2 c3 => ?_)
    have g30 : m2 30 = m1 30 := x2 30 (by decide)
    refine ⟨by omega, ⟨by omega, by omega, gx_tr (T := [31]) x1 (gx_sub x2 (by decide)), by rw [g30]; exact f1, s2, fun e a b => ?_⟩, by (try dsimp only); omega⟩
    exact c3 e (by omega) (by rw [g26]; exact b)

