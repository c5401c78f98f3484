/-! TREES: the class's recursion -/
theorem gk_O1 {G : gm_G} {E : Int} {O : Int → Int} (hG : gm_ok G) (fa : gk_fa G E O) {r d : Int} (r0 : 0 ≤ r) (r1 : r < gm_R G) (d0 : 0 ≤ d) (d1 : d < gm_s G r) (hn : gm_n G r d ≠ -1) (er : gm_er G E r 0 d) : gb (O (gm_o G r)) (gm_n G r d) := by
  obtain ⟨p1, p2, p3, p4, p5⟩ := hG.2.2.2.2.1 r r0 r1
  have nn := gm_n_rng hG r0 r1 d0 d1
  exact fa.2.2.1 _ _ p1 p2 (by omega) ⟨r, d, r0, Or.inl r1, rfl, d0, d1, rfl, er⟩
theorem gk_O2 {G : gm_G} {E : Int} {O : Int → Int} (fa : gk_fa G E O) {a b c : Int} (a0 : 0 ≤ a) (a1 : a < gm_N G) (b0 : 0 ≤ b) (b1 : b < gm_N G) (c0 : 0 ≤ c) (h1 : gb (O a) b) (h2 : gb (O b) c) : gb (O a) c := fa.2.2.2.1 a b c a0 a1 b0 b1 c0 h1 h2
/-- the names above n over the same letters, as far as they can matter -/
def gk_hs (G : gm_G) (O : Int → Int) (n B D : Int) : Prop := ∃ S : Int → Prop, (gk_fr S : Int) + D ≤ 8 ∧ (∀ h, 0 ≤ h → h < gm_N G → S h → gb (O h) n) ∧ (∀ h, 0 ≤ h → h < 8 → S h → h < gm_N G) ∧ ∀ h, 0 ≤ h → h < gm_N G → S h → gb (O n) h → gb B h
theorem gk_fr_0 {S : Int → Prop} (h : gk_fr S = 0) {n : Int} (n0 : 0 ≤ n) (n1 : n < 8) : S n := by
  refine Classical.byContradiction (fun y => ?_)
  have := gk_fr_lt (A := S) (B := fun _ => True) (fun _ _ => trivial) n0 n1 y trivial
  omega
theorem gk_countOf {gk_K : Int} {G : gm_G} {z : Int} {t : Int → Int} {E : Int} {O : Int → Int} {i j ci cj : Int} (hG : gm_ok G) (fa : gk_fa G E O) (i0 : 0 ≤ i) (ij : i ≤ j) (jz : j ≤ z) (z8 : z ≤ 8) (hcc : i < j → ci = i ∧ cj = j) : ∀ (c : Nat) (n B D : Int) (m : gh_M) (Q : Int → gh_M → Prop), 9 ≤ (c : Int) + D → 0 ≤ n → n < gm_N G → gbs 8 B → 0 ≤ D → D ≤ 8 → (gt_M G z t n i j → gk_hs G O n B D) → gk_cx G z t O m → gk_st gk_K G z t i j ci cj m → (∀ m2, gk_fx D i j m m2 → gk_st gk_K G z t i j ci cj m2 → Q (gk_C G z t n i j (gb B)) m2) → gh_rec c n i j B D m Q
  | 0, n, B, D, m, Q, hc, _, _, _, _, hD, _, _, _, _ => by omega
  | c + 1, n, B, D, m, Q, hc, n0, n1, hB, D0, D8, hs, cx, st, H => by
    have hN := hG.2.1
    show w_Forest_countOf (gh_rec c) n i j B D m Q
    have tB := gb_test0 (x := B) (i := n) (gbs_le hB (by decide)) n0 (by omega)
    have tC := gb_test0 (x := m 31 (n * 9 + i)) (i := j) (gbs_le (cx.2.2.1.1 _ (by omega) (by omega)) (by decide)) (by omega) (by omega)
    have tM : gb (m 31 (n * 9 + i)) j ↔ gt_M G z t n i j := by
      have := cx.2.2.1.2 n i j
      rw [cx.2.2.2.2.1, cx.2.2.2.2.2.1] at this
      exact ⟨fun y => this.mp ⟨n0, n1, i0, by omega, by omega, y⟩, fun y => (this.mpr y).2.2.2.2.2⟩
    refine ⟨fun _ _ => ⟨by omega, by omega, by omega, by omega⟩, fun c1 => ?_, fun c1 => ?_⟩
    rotate_left
    · have e0 : gk_C G z t n i j (gb B) = 0 := by
        rw [gk_eq hG n0 n1 ij (by omega)]
        refine gt_if_f (fun y => c1 ⟨tB.mpr y.1, ?_, fun u => tC.mp u (tM.mpr y.2)⟩)
        refine Classical.byContradiction (fun d8 => ?_)
        obtain ⟨S, s1, s2, s3, s4⟩ := hs y.2
        have sn := gk_fr_0 (S := S) (by omega) n0 (by omega)
        exact y.1 (s4 n n0 n1 sn (s2 n n0 n1 sn))
      have := H m gk_fx_rf st
      rw [e0] at this
      exact this
    obtain ⟨q1, D8', q2⟩ := c1
    have nB : ¬ gb B n := tB.mp q1
    have mm : gt_M G z t n i j := tM.mp (Classical.byContradiction (fun y => q2 (tC.mpr y)))
    obtain ⟨S, s1, s2, s3, s4⟩ := hs mm
    have nS : ¬ S n := fun y => nB (s4 n n0 n1 y (s2 n n0 n1 y))
    have On := fa.2.1 n n0 n1
    refine ⟨n0, by omega, ?_⟩
    rw [cx.2.2.2.2.2.2]
    rintro _ rfl
    have hv : gbs 8 (gh_iand_f B (O n)) := gbs_and (by decide) hB On.1
    have bv : ∀ x, gb (gh_iand_f B (O n)) x ↔ gb B x ∧ gb (O n) x := fun x => gb_iand (n := 8) (by decide) hB On.1
    have Ceq : gk_C G z t n i j (gb (gh_iand_f B (O n))) = gk_C G z t n i j (gb B) := gk_hind hG fa.1 (O := fun a b => gb (O a) b) (fun r d r0 r1 d0 d1 hn er => gk_O1 hG fa r0 r1 d0 d1 hn er) (fun a b c a0 a1 b0 b1 c0 c1 h1 h2 => gk_O2 fa a0 a1 b0 b1 c0 h1 h2) 100 n i j _ _ n0 n1 ⟨fun y => absurd ((bv n).mp y).1 nB, fun y => absurd y nB⟩ (fun m m0 m1 o => ⟨fun y => ((bv m).mp y).1, fun y => (bv m).mpr ⟨y, o⟩⟩)
    refine gk_recall hG fa.1 n0 n1 i0 ij jz z8 hcc st hv (fun r hr => ⟨fun rn => ⟨n0, by omega, ?_⟩, fun rn => ?_⟩)
    rotate_left
    · have e : r = gk_C G z t n i j (gb B) := by
        rcases hr with y | y
        · omega
        · exact y.trans Ceq
      have := H m gk_fx_rf st
      rw [e]
      exact this
    rintro _ rfl
    obtain ⟨g1, g2, g3, g4⟩ := cx.2.2.2.1 n n0 n1
    have B2 : gbs 8 (gh_ior_f (gh_iand_f B (O n)) (gh_ishl_f 1 n)) := gbs_or (by decide) hv (gbs_one n0 (by omega) (by decide))
    have bB2 : ∀ x, 0 ≤ x → (gb (gh_ior_f (gh_iand_f B (O n)) (gh_ishl_f 1 n)) x ↔ gb (gh_iand_f B (O n)) x ∨ x = n) := fun x x0 => by
      rw [gb_ior (n := 8) (by decide) hv (gbs_one n0 (by omega) (by decide)), gb_ishl1 n0 (by omega) x0]
    refine ⟨fun v r m1 => m 14 n ≤ r ∧ r ≤ m 14 n + m 15 n ∧ gk_fx D i j m m1 ∧ gk_st gk_K G z t i j ci cj m1 ∧ v = min (gsum (fun r => gt_if (gm_o G r = n) (gk_R G z t r i j (fun x => gb (gh_iand_f B (O n)) x ∨ x = n) 0 i)) r.toNat) 1000000000000000000, fun _ r _ => (30 - r).toNat, ⟨Int.le_refl _, by omega, gk_fx_rf, st, ?_⟩, ?_⟩
    · rw [gsum_z _ (fun r r0 r1 => gt_if_f (fun y => by
        have := (g4 r r0 (by omega)).mp y
        omega))]
      decide
    rintro v r m1 ⟨v0, v1, fx1, st1, hv1⟩
    have cx1 := gk_cx_x fx1.1 (by decide) cx
    have e14 : m1 14 = m 14 := fx1.1 14 (by decide)
    have e15 : m1 15 = m 15 := fx1.1 15 (by decide)
    have hR := hG.2.2.2.1
    have sm0 : 0 ≤ gsum (fun r => gt_if (gm_o G r = n) (gk_R G z t r i j (fun x => gb (gh_iand_f B (O n)) x ∨ x = n) 0 i)) r.toNat := gsum_nn _ (fun r' r0 r1 => by
      (try dsimp only)
      by_cases q : gm_o G r' = n
      · rw [gt_if_t q]
        exact (gk_R_b hG r0 (by omega) (Int.le_refl _)).1
      · rw [gt_if_f q]
        exact Int.le_refl _)
    unfold f_Forest_countOf_80 k_Grammar_behindRules x_Grammar_behindRules
    rw [e14, e15]
    refine ⟨⟨n0, by omega, n0, by omega, by omega⟩, fun c2 => ?_, fun c2 => ?_⟩
    · have r0 : 0 ≤ r := by omega
      have r1 : r < gm_R G := by omega
      have ro : gm_o G r = n := (g4 r r0 r1).mpr ⟨v0, c2⟩
      refine gk_byRule hG fa r0 r1 i0 ij jz D0 D8' (fun d m3 Q1 d0 d1 hn er cx3 st3 H3 => ?_) cx1 st1 (fun m2 fx2 st2 _ => ?_)
      · have nn := gm_n_rng hG r0 r1 d0 d1
        refine gk_countOf hG fa i0 ij jz z8 hcc c (gm_n G r d) _ (D + 1) m3 Q1 (by omega) (by omega) (by omega) B2 (by omega) (by omega) (fun m3' => ?_) cx3 st3 H3
        have o1 := gk_O1 hG fa r0 r1 d0 d1 hn (er m3')
        rw [ro] at o1
        refine ⟨fun x => S x ∨ x = n, ?_, fun h h0 h1 y => ?_, fun h h0 h1 y => ?_, fun h h0 h1 y o => (bB2 h h0).mpr ?_⟩
        · have := gk_fr_lt (A := S) (B := fun x => S x ∨ x = n) (fun x y => Or.inl y) n0 (by omega) nS (Or.inr rfl)
          omega
        · rcases y with y | y
          · exact gk_O2 fa h0 h1 n0 n1 (by omega) (s2 h h0 h1 y) o1
          · rw [y]
            exact o1
        · rcases y with y | y
          · exact s3 h h0 h1 y
          · omega
        · rcases y with y | y
          · have on := gk_O2 fa n0 n1 (by omega) (by omega) h0 o1 o
            exact Or.inl ((bv h).mpr ⟨s4 h h0 h1 y on, on⟩)
          · exact Or.inr y
      · have Rc := gk_R_cg hG (z := z) (t := t) fa.1 (r := r) (i := i) (j := j) (d := 0) (k := i) r0 r1 (Int.le_refl _) (Int.le_refl _) (A := gb (gh_ior_f (gh_iand_f B (O n)) (gh_ishl_f 1 n))) (B := fun x => gb (gh_iand_f B (O n)) x ∨ x = n) (fun x x0 _ => bB2 x x0)
        rw [Rc]
        have Rb := gk_R_b hG (z := z) (t := t) (i := i) (j := j) (B := fun x => gb (gh_iand_f B (O n)) x ∨ x = n) (d := 0) (k := i) r0 r1 (Int.le_refl _)
        refine ⟨by unfold k_Forest_plus; exact ⟨by omega, by omega⟩, ?_⟩
        rintro _ rfl
        refine ⟨by omega, ⟨by omega, by omega, gk_fx_tr (Int.le_refl D) fx1 fx2, st2, ?_⟩, by (try dsimp only); omega⟩
        have e : (r + 1).toNat = r.toNat + 1 := by omega
        rw [e]
        show x_Forest_plus _ _ = min (gsum _ r.toNat + gt_if (gm_o G (r.toNat : Int) = n) (gk_R G z t (r.toNat : Int) i j (fun x => gb (gh_iand_f B (O n)) x ∨ x = n) 0 i)) 1000000000000000000
        have e2 : (r.toNat : Int) = r := by omega
        rw [e2, gt_if_t ro]
        unfold x_Forest_plus
        omega
    · have er : r = m 14 n + m 15 n := by omega
      have all : gsum (fun r => gt_if (gm_o G r = n) (gk_R G z t r i j (fun x => gb (gh_iand_f B (O n)) x ∨ x = n) 0 i)) (gm_R G).toNat = gsum (fun r => gt_if (gm_o G r = n) (gk_R G z t r i j (fun x => gb (gh_iand_f B (O n)) x ∨ x = n) 0 i)) r.toNat := by
        have e : (gm_R G).toNat = r.toNat + ((gm_R G).toNat - r.toNat) := by omega
        rw [e]
        exact gsum_ext _ (fun x x0 x1 => gt_if_f (fun y => by
          have := (g4 x (by omega) (by omega)).mp y
          omega))
      have vC : v = gk_C G z t n i j (gb (gh_iand_f B (O n))) := by
        rw [gk_eq hG n0 n1 ij (by omega), gt_if_t ⟨fun y => nB ((bv n).mp y).1, mm⟩, all, hv1]
      refine gk_keep (D := D) hG fa.1 n0 n1 i0 ij jz z8 hcc st1 hv vC (fun m2 fx2 st2 => ?_)
      rw [vC, Ceq]
      exact H m2 (gk_fx_tr (Int.le_refl D) fx1 fx2) st2

