/-! SUMS -/
theorem gl_gs_27 {F : Int → Int → Int} : ∀ a : Nat, gsum (fun x => F (x / 27) (x % 27)) (a * 27) = gsum (fun i => gsum (F i) 27) a
  | 0 => rfl
  | a + 1 => by
    have e : (a + 1) * 27 = a * 27 + 27 := by omega
    rw [e, gsum_app, gl_gs_27 a]
    show _ = gsum (fun i => gsum (F i) 27) a + gsum (F a) 27
    refine congrArg _ (gsum_cg 27 (fun i i0 i1 => ?_))
    have i27 : i < 27 := i1
    have e1 : (((a * 27 : Nat) : Int) + i) % 27 = i := by omega
    have e2 : (((a * 27 : Nat) : Int) + i) / 27 = a := by omega
    (try dsimp only)
    rw [e1, e2]
/-- two rules for a letter -/
def gl_two (m : gh_M) (n c : Int) : Prop := ∃ r q, m 14 n ≤ r ∧ r < q ∧ q < m 14 n + m 15 n ∧ gb (m 25 r) c ∧ gb (m 25 q) c
noncomputable def gl_tn (m : gh_M) (n : Int) : Int := gsum (fun c => gt_ib (gl_two m n c)) 27
theorem gl_tn_b {m : gh_M} {n : Int} : 0 ≤ gl_tn m n ∧ gl_tn m n ≤ 27 := by
  unfold gl_tn
  have a := gsum_nn (f := fun c => gt_ib (gl_two m n c)) 27 (fun c _ _ => by
    rcases gt_ib_01 (P := gl_two m n c) with y | y
    · (try dsimp only)
      omega
    · (try dsimp only)
      omega)
  have b := gsum_le (f := fun c => gt_ib (gl_two m n c)) (B := 1) 27 (fun c _ _ => by
    rcases gt_ib_01 (P := gl_two m n c) with y | y
    · (try dsimp only)
      omega
    · (try dsimp only)
      omega)
  omega
theorem gl_clashes {G : gm_G} {m : gh_M} {Q : Int → Prop} (g : gl_gr G m) (H : Q (gsum (gl_tn m) (gm_N G).toNat)) : w_Facts_clashes m Q := by
  obtain ⟨hG, hC, hD, g4, g5, g6, g7, f, f2, mf⟩ := g
  have hN0 := hG.1
  have hN := hG.2.1
  have hR := hG.2.2.2.1
  unfold w_Facts_clashes
  refine ⟨fun v n => 0 ≤ n ∧ n ≤ gm_N G ∧ v = gsum (gl_tn m) n.toNat ∧ 0 ≤ v ∧ v ≤ 27 * n, fun v n => (20 - n).toNat, ⟨Int.le_refl _, by omega, rfl, Int.le_refl _, Int.le_refl _⟩, ?_⟩
  rintro v n ⟨n0, n1, hv, v0, v1⟩
  unfold f_Facts_clashes_4
  rw [hC.1]
  refine ⟨fun lt => ⟨n0, by omega, fun v5 hv5 => ?_⟩, fun ge => ?_⟩
  · rw [hv5]
    clear hv5 v5
    obtain ⟨r1, r2, r3, _⟩ := g4 n n0 lt
    have b27 := gl_tn_b (m := m) (n := n)
    refine ⟨fun a b x => m 14 n ≤ x ∧ x ≤ m 14 n + m 15 n ∧ gbs 27 a ∧ gbs 27 b ∧ (∀ c, 0 ≤ c → (gb a c ↔ ∃ r, m 14 n ≤ r ∧ r < x ∧ gb (m 25 r) c)) ∧ ∀ c, 0 ≤ c → (gb b c ↔ ∃ r q, m 14 n ≤ r ∧ r < q ∧ q < x ∧ gb (m 25 r) c ∧ gb (m 25 q) c), fun a b x => (30 - x).toNat, ⟨Int.le_refl _, by omega, gbs_0 _, gbs_0 _, fun c _ => ⟨fun y => absurd y (gb_0 c), fun ⟨r, _, _, _⟩ => by omega⟩, fun c _ => ⟨fun y => absurd y (gb_0 c), fun ⟨r, q, _, _, _, _⟩ => by omega⟩⟩, ?_⟩
    rintro a b x ⟨x0, x1, ga, gb', ha, hb⟩
    unfold f_Facts_clashes_31 k_Grammar_behindRules x_Grammar_behindRules
    refine ⟨⟨n0, by omega, n0, by omega, by omega⟩, fun xl => ⟨by omega, by omega, fun b2 hb2 => ⟨by omega, by omega, fun a2 ha2 => ⟨by omega, ⟨by omega, by omega, ?_, ?_, fun c c0 => ?_, fun c c0 => ?_⟩, by (try dsimp only); omega⟩⟩⟩, fun xg => ?_⟩
    · rw [ha2]
      exact gbs_or (by decide) ga (f2.2.2.2 x (by omega) (by omega)).1
    · rw [hb2]
      exact gbs_or (by decide) gb' (gbs_and (by decide) ga (f2.2.2.2 x (by omega) (by omega)).1.1)
    · rw [ha2, gb_ior (by decide) ga (f2.2.2.2 x (by omega) (by omega)).1, ha c c0]
      refine ⟨fun y => ?_, fun ⟨r, y1, y2, y3⟩ => ?_⟩
      · rcases y with ⟨r, y1, y2, y3⟩ | y
        · exact ⟨r, y1, by omega, y3⟩
        · exact ⟨x, x0, by omega, y⟩
      · by_cases u : r = x
        · rw [u] at y3
          exact Or.inr y3
        · exact Or.inl ⟨r, y1, by omega, y3⟩
    · have gx' := (f2.2.2.2 x (by omega) (by omega)).1
      rw [hb2, gb_ior (by decide) gb' (gbs_and (by decide) ga gx'.1), gb_iand (by decide) ga gx'.1, hb c c0, ha c c0]
      refine ⟨fun y => ?_, fun ⟨r, q, y1, y2, y3, y4, y5⟩ => ?_⟩
      · rcases y with ⟨r, q, y1, y2, y3, y4, y5⟩ | ⟨⟨r, y1, y2, y3⟩, y4⟩
        · exact ⟨r, q, y1, y2, by omega, y4, y5⟩
        · exact ⟨r, x, y1, y2, by omega, y3, y4⟩
      · by_cases u : q = x
        · rw [u] at y2 y5
          exact Or.inr ⟨⟨r, y1, y2, y4⟩, y5⟩
        · exact Or.inl ⟨r, q, y1, y2, by omega, y4, y5⟩
    · have ex : x = m 14 n + m 15 n := by omega
      have ep : gh_pop b = gl_tn m n := by
        rw [gz_pop (n := 27) (by decide) gb']
        refine gsum_cg 27 (fun c c0 _ => gt_ib_cg ?_)
        rw [hb c c0, ex]
        exact Iff.rfl
      rw [ep]
      refine ⟨by omega, fun v1' hv1' => ⟨by omega, ⟨by omega, by omega, ?_, by omega, by omega⟩, by (try dsimp only); omega⟩⟩
      rw [gl_gs n0, hv1', hv]
  · have en : n = gm_N G := by omega
    rw [hv, en]
    exact H
theorem gl_fnd2 {P : Int → Prop} {a b v : Int} (a0 : 0 ≤ a) (h : gm_fnd P a b v) : v = -2 ↔ ∃ r q, a ≤ r ∧ r < q ∧ q < b ∧ P r ∧ P q := by
  rcases h with ⟨h1, h2⟩ | ⟨h1, h2, h3, h4⟩ | ⟨h1, h2⟩
  · refine ⟨fun z => by omega, fun ⟨r, q, y1, y2, y3, y4, y5⟩ => absurd y4 (h2 r y1 (by omega))⟩
  · refine ⟨fun z => by omega, fun ⟨r, q, y1, y2, y3, y4, y5⟩ => ?_⟩
    have e1 := h4 r y1 (by omega) y4
    have e2 := h4 q (by omega) y3 y5
    omega
  · exact ⟨fun _ => h2, fun _ => h1⟩
theorem gl_unclear {G : gm_G} {m : gh_M} {Q : Int → Prop} (g : gl_gr G m) (H : Q (gsum (gl_tn m) (gm_N G).toNat)) : w_Model_unclear m Q := by
  have g0 := g
  obtain ⟨hG, hC, hD, g4, g5, g6, g7, f, f2, mf⟩ := g
  have hN0 := hG.1
  have hN := hG.2.1
  have hR := hG.2.2.2.1
  have fin : gsum (fun x => gt_ib (gl_two m (x / 27) (x % 27))) (27 * gm_N G).toNat = gsum (gl_tn m) (gm_N G).toNat := by
    have e : (27 * gm_N G).toNat = (gm_N G).toNat * 27 := by omega
    rw [e]
    exact gl_gs_27 (F := fun n c => gt_ib (gl_two m n c)) (gm_N G).toNat
  unfold w_Model_unclear
  refine ⟨fun v x => 0 ≤ x ∧ x ≤ 27 * gm_N G ∧ v = gsum (fun x => gt_ib (gl_two m (x / 27) (x % 27))) x.toNat ∧ 0 ≤ v ∧ v ≤ x, fun v x => (300 - x).toNat, ⟨Int.le_refl _, by omega, rfl, Int.le_refl _, Int.le_refl _⟩, ?_⟩
  rintro v x ⟨x0, x1, hv, v0, v1⟩
  unfold f_Model_unclear_4
  rw [hD.1]
  refine ⟨by omega, fun lt => ⟨x0, x0, ?_⟩, fun ge => ?_⟩
  · refine gl_tab g0 (by omega) (by omega) (by omega) (by omega) (fun y hy => ?_)
    have g4n := g4 (x / 27) (by omega) (by omega)
    have tw : y = -2 ↔ gl_two m (x / 27) (x % 27) := gl_fnd2 g4n.1 hy
    have e : (if y = -2 then (1 : Int) else 0) = gt_ib (gl_two m (x / 27) (x % 27)) := by
      by_cases u : y = -2
      · rw [if_pos u, gt_ib_t (tw.mp u)]
      · rw [if_neg u, gt_ib_f (fun z => u (tw.mpr z))]
    have eb := gt_ib_01 (P := gl_two m (x / 27) (x % 27))
    rw [e]
    refine ⟨by omega, fun v1' hv1' => ⟨by omega, ⟨by omega, by omega, ?_, by omega, by omega⟩, by (try dsimp only); omega⟩⟩
    rw [gl_gs x0, hv1', hv]
  · have ex : x = 27 * gm_N G := by omega
    rw [hv, ex, fin]
    exact H
theorem gl_sz_b {G : gm_G} (hG : gm_ok G) {r : Int} (r0 : 0 ≤ r) (r1 : r < gm_R G) : 0 ≤ gm_s G r ∧ gm_s G r ≤ 4 := ⟨(hG.2.2.2.2.1 r r0 r1).2.2.1, (hG.2.2.2.2.1 r r0 r1).2.2.2.1⟩
theorem gl_allParts {G : gm_G} {m : gh_M} {Q : Int → Prop} (hG : gm_ok G) (hC : gm_C m G) (H : Q (gsum (gm_s G) (gm_R G).toNat)) : w_Grammar_allParts m Q := by
  have hR0 := hG.2.2.1
  have hR := hG.2.2.2.1
  refine ⟨fun v r => 0 ≤ r ∧ r ≤ gm_R G ∧ v = gsum (gm_s G) r.toNat ∧ 0 ≤ v ∧ v ≤ 4 * r, fun v r => (30 - r).toNat, ⟨Int.le_refl _, hR0, rfl, Int.le_refl _, Int.le_refl _⟩, ?_⟩
  rintro v r ⟨r0, r1, hv, v0, v1⟩
  unfold f_Grammar_allParts_4
  rw [hC.2.1]
  refine ⟨fun lt => ?_, fun ge => ?_⟩
  · have sb := gl_sz_b hG r0 lt
    rw [(hC.2.2 r r0 lt).2.1]
    refine ⟨r0, by omega, by omega, fun v1' hv1' => ⟨by omega, ⟨by omega, by omega, ?_, by omega, by omega⟩, by (try dsimp only); omega⟩⟩
    rw [gl_gs r0, hv1', hv]
  · have er : r = gm_R G := by omega
    rw [hv, er]
    exact H
theorem gl_sum {K b : Int} {m : gh_M} {v : Int} {Q : Int → Prop} (inv : gl_I K b m) (H : ∀ r, (∀ Q2 : Int → Prop, Q2 r → w_Model_sum v m Q2) → Q r) : w_House_sum v m Q := by
  obtain ⟨_, _, i3, _, _, _, G, _, al⟩ := inv
  unfold w_House_sum
  unfold w_Model_sum at H
  rw [i3] at al ⊢
  by_cases r : ¬ v < 0 ∧ v ≤ 6
  · refine ⟨fun _ => ⟨fun h => H _ (fun Q2 q => ⟨fun _ => ⟨fun _ => q, fun z => absurd h z⟩, fun z => absurd r z⟩), fun h => ?_⟩, fun z => absurd r z⟩
    obtain ⟨_, g, ⟨tx, d1, _⟩, _, _, _, pk⟩ := al h
    have g0 := g
    obtain ⟨hG, hC, hD, g4, g5, g6, g7, f, f2, mf⟩ := g
    have hR0 := hG.2.2.1
    have hR := hG.2.2.2.1
    have H2 : ∀ r', (∀ Q2 : Int → Prop, Q2 r' → ((v = 0 → Q2 (m 63 25)) ∧ (¬ (v = 0) → ((v = 1 → Q2 (gm_N G)) ∧ (¬ (v = 1) → ((v = 2 → Q2 (gm_R G)) ∧ (¬ (v = 2) → ((v = 3 → Q2 (gsum (gm_s G) (gm_R G).toNat)) ∧ (¬ (v = 3) → ((v = 4 → Q2 (m 63 50)) ∧ (¬ (v = 4) → ((v = 5 → w_Model_unclear m (fun r3475 => Q2 r3475)) ∧ (¬ (v = 5) → Q2 (m 63 68)))))))))))))) → Q r' := fun r' y => H r' (fun Q2 q => ⟨fun _ => ⟨fun z => absurd z h, fun _ => ?_⟩, fun z => absurd r z⟩)
    · clear H
      rw [hC.1, hC.2.1, g7]
      refine ⟨fun c => H2 _ (fun Q2 q => ⟨fun _ => q, fun z => absurd c z⟩), fun c => H2 _ (fun Q2 q => ⟨fun z => by omega, fun _ => ⟨fun _ => q, fun z => absurd c z⟩⟩), fun c => H2 _ (fun Q2 q => ⟨fun z => by omega, fun _ => ⟨fun z => by omega, fun _ => ⟨fun _ => q, fun z => absurd c z⟩⟩⟩), fun c => gl_allParts hG hC (H2 _ (fun Q2 q => ⟨fun z => by omega, fun _ => ⟨fun z => by omega, fun _ => ⟨fun z => by omega, fun _ => ⟨fun _ => q, fun z => absurd c z⟩⟩⟩⟩)), fun c => H2 _ (fun Q2 q => ⟨fun z => by omega, fun _ => ⟨fun z => by omega, fun _ => ⟨fun z => by omega, fun _ => ⟨fun z => by omega, fun _ => ⟨fun _ => by rw [d1]; exact q, fun z => absurd c z⟩⟩⟩⟩⟩), fun c => gl_clashes g0 (H2 _ (fun Q2 q => ⟨fun z => by omega, fun _ => ⟨fun z => by omega, fun _ => ⟨fun z => by omega, fun _ => ⟨fun z => by omega, fun _ => ⟨fun z => by omega, fun _ => ⟨fun _ => gl_unclear g0 q, fun z => absurd c z⟩⟩⟩⟩⟩⟩)), fun c0 c1 c2 c3 c4 c5 => H2 _ (fun Q2 q => ⟨fun z => absurd z c0, fun _ => ⟨fun z => absurd z c1, fun _ => ⟨fun z => absurd z c2, fun _ => ⟨fun z => absurd z c3, fun _ => ⟨fun z => absurd z c4, fun _ => ⟨fun z => absurd z c5, fun _ => by rw [pk.2.1]; exact q⟩⟩⟩⟩⟩⟩)⟩
    · refine ⟨fun w r => 0 ≤ r ∧ r ≤ gm_R G ∧ w = gsum (gm_s G) r.toNat ∧ 0 ≤ w ∧ w ≤ 4 * r, fun w r => (30 - r).toNat, ⟨Int.le_refl _, hR0, rfl, Int.le_refl _, Int.le_refl _⟩, ?_⟩
      rintro w r ⟨r0, r1, hw, w0, w1⟩
      unfold f_Model_sum_29
      rw [hD.2.1, hD.1]
      refine ⟨fun lt => ?_, fun ge => ?_⟩
      · have sb := gl_sz_b hG r0 lt
        rw [(hD.2.2 r r0 lt).2.1]
        refine ⟨r0, by omega, by omega, fun v1' hv1' => ⟨by omega, ⟨by omega, by omega, ?_, by omega, by omega⟩, by (try dsimp only); omega⟩⟩
        rw [gl_gs r0, hv1', hw]
      · have er : r = gm_R G := by omega
        rw [hw, er]
        exact y Q2 q
  · exact ⟨fun z => absurd z r, fun _ => H _ (fun Q2 q => ⟨fun z => absurd z r, fun _ => q⟩)⟩
