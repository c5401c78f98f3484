theorem gm_u_ne {m : gh_M} {i v : Int} {a : Int} (h : a ≠ 20) : (gh_u m 20 i v) a = m a := by
  funext j
  exact gh_u_a h
theorem gm_find {m : gh_M} {G : gm_G} {Q : Int → gh_M → Prop} (hG : gm_ok G) (hC : gm_C m G) (h : ∀ m1, gx [20, 21, 22, 23, 24, 25] m m1 → gm_fct G m1 → gm_fct2 G m1 → Q 0 m1) : w_Facts_find m Q := by
  have hN := hG.2.1
  have k : (gm_N G).toNat ≤ 8 := by omega
  have all : gbs 20 1048575 := ⟨by decide, by decide⟩
  refine gm_findEmpty hG hC (fun E e1 e2 e3 => ?_)
  have c1 := gm_C_20 hC 1 E
  refine gm_findLeast hG c1 (fun m2 x2 l1 l2 l3 d1 d2 => ?_)
  have c2 := gm_lx_C x2 c1
  have y1 : m2 20 1 = E := (x2 20 1 (by decide) (by decide)).trans (gh_u_s m 20 1 E)
  refine gm_findUsefulRules hG c2 l1 (fun U u1 u2 => ?_)
  have c3 := gm_C_20 c2 5 U
  have gxm : gx [20, 21, 22, 23, 24, 25] m m2 := by
    intro a ha
    funext j
    have n20 : a ≠ 20 := fun z => ha (by rw [z]; decide)
    have n21 : a ≠ 21 := fun z => ha (by rw [z]; decide)
    exact (x2 a j n21 (fun z => n20 z.1)).trans (gh_u_a n20)
  refine gm_spread hG c3 all (fun F f1 f2 f3 => ?_)
  have c4 := gm_C_20 c3 3 F
  have fin : ∀ Y, gbs (gm_N G).toNat Y → (¬ gb (m2 20 2) 0 → Y = 0) → (gb (m2 20 2) 0 → gm_Scl G U Y ∧ gm_Sso G U Y) → w_Facts_findOver (gh_u (gh_u (gh_u m2 20 5 U) 20 3 F) 20 4 Y) (fun _ m973 => w_Facts_findFirst m973 (fun _ m975 => w_Facts_findFollow m975 (fun _ m977 => w_Facts_findTable m977 (fun _ m979 => Q 0 m979)))) := by
    intro Y g1 g2 g3
    refine gm_find2 hG (gm_C_20 c4 4 Y) (gx_u (gx_u (gx_u gxm (by decide)) (by decide)) (by decide)) ?_ h
    have s1 : (gh_u (gh_u (gh_u m2 20 5 U) 20 3 F) 20 4 Y) 20 1 = E := by
      rw [gh_u_i (by decide), gh_u_i (by decide), gh_u_i (by decide)]
      exact y1
    have s2 : (gh_u (gh_u (gh_u m2 20 5 U) 20 3 F) 20 4 Y) 20 2 = m2 20 2 := by
      rw [gh_u_i (by decide), gh_u_i (by decide), gh_u_i (by decide)]
    have s3 : (gh_u (gh_u (gh_u m2 20 5 U) 20 3 F) 20 4 Y) 20 3 = F := by
      rw [gh_u_i (by decide), gh_u_s]
    have s4 : (gh_u (gh_u (gh_u m2 20 5 U) 20 3 F) 20 4 Y) 20 4 = Y := gh_u_s _ _ _ _
    have s5 : (gh_u (gh_u (gh_u m2 20 5 U) 20 3 F) 20 4 Y) 20 5 = U := by
      rw [gh_u_i (by decide), gh_u_i (by decide), gh_u_s]
    have s6 : (gh_u (gh_u (gh_u m2 20 5 U) 20 3 F) 20 4 Y) 21 = m2 21 := by
      rw [gm_u_ne (by decide), gm_u_ne (by decide), gm_u_ne (by decide)]
    unfold gm_fct
    rw [s1, s2, s3, s4, s5, s6]
    exact ⟨⟨e1, e2, e3⟩, ⟨l1, l2, l3⟩, ⟨d1, d2⟩, ⟨u1, u2⟩, ⟨f1, f2, f3⟩, ⟨g1, g2, g3⟩⟩
  have t2 : (gh_u m2 20 5 U) 20 2 = m2 20 2 := gh_u_i (by decide)
  have t5 : (gh_u m2 20 5 U) 20 5 = U := gh_u_s _ _ _ _
  rw [t2, t5]
  obtain ⟨b1, b2⟩ := gb_bit0 (gbs_le d1 k)
  refine ⟨fun y z => gbs (gm_N G).toNat y ∧ (¬ gb (m2 20 2) 0 → y = 0) ∧ (gb (m2 20 2) 0 → gm_Scl G U y ∧ gm_Sso G U y), fun y z w => fin y w.1 w.2.1 w.2.2, fun z => ⟨gbs_0 _, fun _ => rfl, fun w => absurd (z.symm.trans (b1 w)) (by decide)⟩, fun z => ?_⟩
  have w : gb (m2 20 2) 0 := Classical.byContradiction (fun w => z (b2 w))
  exact gm_spread hG c4 u1 (fun Y g1 g2 g3 => ⟨g1, fun n => absurd w n, fun _ => ⟨g2, g3⟩⟩)

