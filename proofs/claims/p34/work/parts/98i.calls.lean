/-! CALLS THAT CHANGE, the class alone: typing, reading, the text; and small ones that tell -/
section G31
variable {K u : Int} {G : gm_G} {m m2 : gh_M} {Q : Int → gh_M → Prop} {v : Int}
theorem gj_q2 (s : ∀ a, 1 ≤ a → a ≤ 25 → m2 a = m a) (ht2 : gt_t m2) (c1 : gl_c1 G m2) (c2 : gl_c2 G m2) (c3 : gl_c3 G m2) (c4 : gl_c4 K G m2) (bu : m2 41 9 ≤ u) (pk : gj_pk G m2) (j : gj_S K u G m) : gj_S K u G m2 := by
  obtain ⟨j1, ⟨hG, hC, rg⟩, ⟨f1, f2⟩, ht, _, _, _, _⟩ := j
  refine ⟨by rw [s 2 (by decide) (by decide)]; exact j1, ⟨hG, ?_, ?_⟩, ⟨?_, ?_⟩, ht2, ⟨c1, c2, c3⟩, c4, bu, pk⟩
  · unfold gm_C at hC ⊢
    rw [s 13 (by decide) (by decide), s 16 (by decide) (by decide), s 17 (by decide) (by decide), s 19 (by decide) (by decide)]
    exact hC
  · rw [s 14 (by decide) (by decide), s 15 (by decide) (by decide)]
    exact rg
  · unfold gm_fct at f1 ⊢
    rw [s 20 (by decide) (by decide), s 21 (by decide) (by decide)]
    exact f1
  · unfold gm_fct2 at f2 ⊢
    rw [s 20 (by decide) (by decide), s 22 (by decide) (by decide), s 23 (by decide) (by decide), s 24 (by decide) (by decide), s 25 (by decide) (by decide)]
    exact f2
/-- the text is another one behind its first c letters -/
theorem gj_newtext {c : Int} (j : gj_S K u G m) (s : ∀ a, 1 ≤ a → a ≤ 25 → m2 a = m a) (tx : gt_t m2) (c0 : -1 ≤ c) (c1 : c ≤ m 26 3) (c2 : c ≤ m2 26 3) (pre : ∀ p, 0 ≤ p → p < c → m2 27 p = m 27 p) (k30 : m2 30 3 = 0) (g9 : gbs 9 (m2 36 4)) (bits : ∀ i, 0 ≤ i → (gb (m2 36 4) i ↔ gb (m 36 4) i ∧ i ≤ c)) (r7 : m2 36 7 = min (m 36 7) c) (w37 : m2 37 = m 37) (w39 : m2 39 = m 39) (e0 : m2 0 = m 0) (e42 : m2 42 = m 42) (e66 : m2 66 = m 66) (e67 : m2 67 = m 67) (e41 : ∀ x, x ≠ 11 → m2 41 x = m 41 x) (e11 : m2 41 11 = min (m 41 11) c) (p47 : m2 47 4 = 0) : gj_S K u G m2 := by
  have j0 := j
  obtain ⟨j1, ⟨hG, hC, rg⟩, ⟨f1, f2⟩, ht, ⟨b1, b2, b3⟩, c4, bu, pk⟩ := j
  have t8 := ht.2.1
  have f20 := s 20 (by decide) (by decide)
  have f21 := s 21 (by decide) (by decide)
  have l1 := f1.2.1.1
  refine gj_q2 s tx (fun z => absurd k30 z) ⟨g9, fun k k0 hk => ?_⟩ ⟨by rw [r7]; have := b3.1; omega, by rw [r7]; omega, ?_⟩ (gl_c4_of (gk_fo_forget hG c0 c1 c2 (fun p p0 p1 => (pre p p0 p1).symm) c4.1 e0 e42 e66 e67 e41 e11)) (by rw [e41 9 (by decide)]; exact bu) ⟨by rw [p47]; decide, fun z => absurd p47 z⟩ j0
  · obtain ⟨h1, h2⟩ := (bits k k0).mp hk
    obtain ⟨_, z', t', P, p1, p2, p3, p4, p5⟩ := b2.2 k k0 h1
    rw [f21, w37]
    exact ⟨by omega, z', t', P, p1, p2, fun p q0 q1 => by rw [pre p q0 (by omega)]; exact p3 p q0 q1, p4, p5⟩
  · rw [r7]
    refine gr_rdy_cg hG l1 (J := m 36 7) (by have := b3.2.1; omega) (by omega) (by rw [f20]) f21 (fun l l0 l1' => (pre l l0 (by omega)).symm) (fun x _ _ => by rw [w39]) b3.2.2
/-- what calls that change the text leave -/
def gj_g (m m1 : gh_M) : Prop := ∀ a : Int, ((1 ≤ a ∧ a ≤ 25) ∨ (63 ≤ a ∧ a ≤ 65)) → m1 a = m a
theorem gj_gx {S : List Int} {m m1 : gh_M} (x : gx S m m1) (hS : S.all (fun s => decide (s = 0 ∨ (26 ≤ s ∧ s ≤ 62) ∨ 66 ≤ s)) = true) : gj_g m m1 := fun a h => x a (fun z => by
  have := List.all_eq_true.mp hS a z
  simp only [decide_eq_true_eq] at this
  omega)
theorem gj_gf {m m1 : gh_M} (h : gj_f m m1) : gj_g m m1 := fun a z => h a (by omega)
theorem gj_gt {m m1 m2 : gh_M} (h1 : gj_g m m1) (h2 : gj_g m1 m2) : gj_g m m2 := fun a h => (h2 a h).trans (h1 a h)
theorem gj_put (j : gj_S K u G m) (hv : ¬ v < 0 ∧ v < 26) (H : ∀ r m1, gj_S K u G m1 → gj_g m m1 → Q r m1) : w_House_put v m Q := by
  have j0 := j
  have hG := j.2.1.1
  have ht := j.2.2.2.1
  have t0 := ht.1
  have g9 := j.2.2.2.2.1.2.1.1
  refine ⟨fun _ => ⟨fun z => absurd z j.1, fun _ => ⟨fun lt => ?_, fun ge => H _ m j (fun _ _ => rfl)⟩⟩, fun z => absurd hv z⟩
  refine gl_changed (K := K) (G := G) (by omega) (by omega) g9 (fun m1 x1 k30 g9' bits r7 e41 e11 p47 => ?_)
  rw [x1 26 (by decide)]
  refine ⟨t0, lt, by omega, ?_⟩
  obtain ⟨m2, hm2⟩ : ∃ m2, m2 = gh_u (gh_u m1 27 (m 26 3) v) 26 3 (m 26 3 + 1) := ⟨_, rfl⟩
  rw [← hm2]
  have x2 : gx [26, 27] m1 m2 := by
    rw [hm2]
    exact gx_u (gx_u gx_rf (by decide)) (by decide)
  have s26 : m2 26 3 = m 26 3 + 1 := by
    rw [hm2, gh_u_s]
  have s27 : m2 27 (m 26 3) = v := by
    rw [hm2, gh_u_a (by decide), gh_u_s]
  have o27 : ∀ x, x ≠ m 26 3 → m2 27 x = m 27 x := fun x xn => by
    rw [hm2, gh_u_a (by decide), gh_u_i xn, x1 27 (by decide)]
  clear hm2
  have x12 : gx [26, 27, 30, 36, 41, 47] m m2 := gx_t (gx_sub x1 (by decide)) (gx_sub x2 (by decide))
  have tx : gt_t m2 := by
    refine ⟨by omega, by omega, fun k k0 k1 => ?_⟩
    by_cases q : k = m 26 3
    · rw [q, s27]
      omega
    · rw [o27 k q]
      exact ht.2.2 k k0 (by omega)
  exact H _ m2 (gj_newtext (c := m 26 3) j0 (fun a p q => x12 a (fun z => by
    simp only [List.mem_cons, List.not_mem_nil, or_false] at z
    omega)) tx (by omega) (Int.le_refl _) (by omega) (fun p p0 p1 => o27 p (by omega)) (by rw [x2 30 (by decide)]; exact k30) (by rw [x2 36 (by decide)]; exact g9') (fun i i0 => by rw [x2 36 (by decide)]; exact bits i i0) (by rw [x2 36 (by decide)]; exact r7) (x12 37 (by decide)) (x12 39 (by decide)) (x12 0 (by decide)) (x12 42 (by decide)) (x12 66 (by decide)) (x12 67 (by decide)) (fun x xn => by rw [x2 41 (by decide)]; exact e41 x xn) (by rw [x2 41 (by decide)]; exact e11) (by rw [x2 47 (by decide)]; exact p47)) (gj_gx x12 (by decide))
theorem gj_madev (j : gj_S K u G m) (hv : ¬ v < 0 ∧ v < 65536) (H0 : ∀ m1, gj_S K u G m1 → gj_g m m1 → Q (-1) m1) (H1 : ∀ m1, gj_S K u G m1 → gj_g m m1 → gt_M G (m1 26 3) (m1 27) 0 0 (m1 26 3) → Q (m1 26 3) m1) : w_House_made v m Q := by
  have j0 := j
  obtain ⟨j1, ⟨hG, hC, rg⟩, ⟨f1, f2⟩, ht, ⟨b1, b2, b3⟩, c4, bu, pk⟩ := j
  have t0 := ht.1
  have g9 := b2.1
  refine ⟨fun _ => ⟨fun z => absurd z j1, fun _ => gz_compose hG hC rg f1 (by omega) hv.2 (fun no => ⟨fun _ => H0 m j0 (fun _ _ => rfl), fun z => absurd rfl z⟩) (fun m1 tc tr e0 gd x1 o1 s26 tc0 tc8 s27 => ⟨fun z => absurd z (by decide), fun _ => ?_⟩) (fun m1 e0 bd x1 o1 => ⟨fun _ => ?_, fun z => absurd rfl z⟩)⟩, fun z => absurd hv z⟩
  · refine gl_changed (K := K) (G := G) (by decide) (by decide) (by rw [x1 36 (by decide)]; exact g9) (fun m2 x2 k30 g9' bits r7 e41 e11 p47 => ?_)
    rw [x1 36 (by decide)] at bits r7
    rw [x1 41 (by decide)] at e41 e11
    have x12 : gx [26, 27, 28, 29, 30, 36, 41, 47] m m2 := gx_t (gx_sub x1 (by decide)) (gx_sub x2 (by decide))
    have q26 : m2 26 3 = tc := by rw [x2 26 (by decide)]; exact s26
    have q27 := x2 27 (by decide)
    have tx : gt_t m2 := by
      refine ⟨by omega, by omega, fun k k0 k1 => ?_⟩
      rw [q27, (s27 k k0 (by omega)).1]
      exact (s27 k k0 (by omega)).2
    refine H1 m2 (gj_newtext (c := 0) j0 (fun a p q => x12 a (fun z => by
      simp only [List.mem_cons, List.not_mem_nil, or_false] at z
      omega)) tx (by decide) t0 (by omega) (fun p p0 p1 => by omega) k30 g9' bits r7 (x12 37 (by decide)) (x12 39 (by decide)) (x12 0 (by decide)) (x12 42 (by decide)) (x12 66 (by decide)) (x12 67 (by decide)) e41 e11 p47) (gj_gx x12 (by decide)) ?_
    have mk := gj_made G hG gd
    rw [q26]
    exact (gt_M_cut2 hG (k := tc) (Int.le_refl _) (Int.le_refl _) (fun p p0 p1 => by rw [q27]; exact (s27 p p0 p1).1.symm) (Int.le_refl _)).mp mk
  · have e26 : m1 26 3 = m 26 3 := o1 3 (by decide) (by decide) (by decide)
    have e27 := x1 27 (by decide)
    have e20 := x1 20 (by decide)
    have e21 := x1 21 (by decide)
    refine H0 m1 (gj_q2 (fun a p q => x1 a (fun z => by
      simp only [List.mem_cons, List.not_mem_nil, or_false] at z
      omega)) ?_ (gl_c1_x e20 e26 e27 (by rw [x1 30 (by decide)]) (fun a p q => x1 a (fun z => by
      simp only [List.mem_cons, List.not_mem_nil, or_false] at z
      omega)) b1) (gl_c2_x e21 e26 e27 (by rw [x1 36 (by decide)]) (x1 37 (by decide)) b2) (gl_c3_x e20 e21 e26 e27 (by rw [x1 36 (by decide)]) (x1 39 (by decide)) b3) (gl_c4_x (x1 0 (by decide)) e26 e27 (x1 41 (by decide)) (x1 42 (by decide)) (x1 66 (by decide)) (x1 67 (by decide)) c4) (by rw [x1 41 (by decide)]; exact bu) (gj_pk_x e26 e27 (by rw [x1 47 (by decide)]) pk) j0) (gj_gx x1 (by decide))
    unfold gt_t at ht ⊢
    rw [e26, e27]
    exact ht
theorem gj_sum2 {Q : Int → Prop} (j : gj_S K u G m) (H : Q (gm_R G)) : w_House_sum 2 m Q :=
  ⟨fun _ => ⟨fun z => absurd z j.1, fun _ => ⟨fun c => absurd c (by decide), fun c => absurd c (by decide), fun _ => by rw [j.2.1.2.1.2.1]; exact H, fun c => absurd c (by decide), fun c => absurd c (by decide), fun c => absurd c (by decide), fun _ _ c => absurd rfl c⟩⟩, fun z => absurd (by decide) z⟩
theorem gj_sum4 {Q : Int → Prop} (j : gj_S K u G m) (H : Q (m 26 3)) : w_House_sum 4 m Q :=
  ⟨fun _ => ⟨fun z => absurd z j.1, fun _ => ⟨fun c => absurd c (by decide), fun c => absurd c (by decide), fun c => absurd c (by decide), fun c => absurd c (by decide), fun _ => H, fun c => absurd c (by decide), fun _ _ _ _ c => absurd rfl c⟩⟩, fun z => absurd (by decide) z⟩
theorem gj_sum6 {Q : Int → Prop} (j : gj_S K u G m) (H : Q (m 47 4)) : w_House_sum 6 m Q :=
  ⟨fun _ => ⟨fun z => absurd z j.1, fun _ => ⟨fun c => absurd c (by decide), fun c => absurd c (by decide), fun c => absurd c (by decide), fun c => absurd c (by decide), fun c => absurd c (by decide), fun c => absurd c (by decide), fun _ _ _ _ _ _ => H⟩⟩, fun z => absurd (by decide) z⟩
theorem gj_sumz {Q : Int → Prop} (h : m 2 10 = 0) (H : Q (-1003)) : w_House_sum 0 m Q :=
  ⟨fun _ => ⟨fun _ => H, fun z => absurd h z⟩, fun z => absurd (by decide) z⟩
/-- whether the first name ends -/
theorem gj_name {Q : Int → Prop} (j : gj_S K u G m) (H : ∀ r, (r = 0 ↔ ¬ m 21 0 < 16777216) → Q r) : w_House_name 0 3 m Q := by
  obtain ⟨j1, ⟨hG, hC, rg⟩, ⟨f1, f2⟩, _⟩ := j
  have hN0 := hG.1
  have hN := hG.2.1
  obtain ⟨_, _, ⟨f3, f3'⟩, _⟩ := f1
  have end0 := f3' 0 (Int.le_refl _) (by omega)
  have bt := gb_test0 (x := m 20 2) (i := 0) (gbs_le f3 (by omega)) (Int.le_refl _) (by decide)
  refine ⟨True, fun _ => ⟨fun _ => ⟨fun z => absurd z j1, fun _ => ⟨fun c => absurd c (by decide), fun c => absurd c (by decide), fun c => absurd c (by decide), fun _ => H _ ?_, fun c => absurd c (by decide), fun c => absurd c (by decide), fun c => absurd c (by decide), fun _ _ _ c => absurd rfl c⟩⟩, fun z => absurd ⟨by decide, by decide⟩ z⟩, fun _ => trivial, fun z => absurd (Or.inr (show p_House_isName 0 m from ⟨by decide, by rw [hC.1]; omega⟩)) z⟩
  exact bt.trans (not_congr end0)
end G31
/-! AHEAD OF A GRAMMAR -/
def gj_A (K : Int) (m : gh_M) : Prop := (0 ≤ m 3 1 ∧ m 3 1 ≤ 240 ∧ ∀ k, 0 ≤ k → k < m 3 1 → 32 ≤ m 4 k ∧ m 4 k ≤ 126) ∧ (m 2 10 = 0 ∧ gbs 9 (m 36 4) ∧ -1 ≤ m 36 7 ∧ m 41 9 ≤ 0) ∧ ∃ G z t, gk_fo K G z t m
theorem gj_A_x {K : Int} {m m2 : gh_M} (e : ∀ a, a ≠ 3 → a ≠ 4 → a ≠ 63 → m2 a = m a) (h3 : m2 3 1 = m 3 1) (h4 : m2 4 = m 4) (h : gj_A K m) : gj_A K m2 := by
  obtain ⟨h1, h2, G, z, t, fo⟩ := h
  refine ⟨by rw [h3, h4]; exact h1, by rw [e 2 (by decide) (by decide) (by decide), e 36 (by decide) (by decide) (by decide), e 41 (by decide) (by decide) (by decide)]; exact h2, G, z, t, ?_⟩
  unfold gk_fo gk_mem gk_ue at fo ⊢
  rw [e 0 (by decide) (by decide) (by decide), e 41 (by decide) (by decide) (by decide), e 42 (by decide) (by decide) (by decide), e 66 (by decide) (by decide) (by decide), e 67 (by decide) (by decide) (by decide)]
  exact fo
theorem gj_A_K {K : Int} {m : gh_M} (h : gj_A K m) : m 0 3 = K := by
  obtain ⟨_, _, G, z, t, fo⟩ := h
  exact gl_mem_K fo.1
theorem gj_S_K {K u : Int} {G : gm_G} {m : gh_M} (h : gj_S K u G m) : m 0 3 = K := gl_mem_K h.2.2.2.2.2.1.1.1
theorem gj_type {K : Int} {m : gh_M} {Q : Int → gh_M → Prop} {a b c d e : Int} (h : gj_A K m) (H : ∀ r m1, gj_A K m1 → gx [3, 4] m m1 → Q r m1) : w_House_type a b c d e m Q := by
  have h0 := h
  obtain ⟨⟨h1, h2, h3⟩, h4, G, z, t, fo⟩ := h
  refine gl_ctype h1 h2 (fun _ => H _ m h0 gx_rf) (fun _ _ => H _ m h0 gx_rf) (fun ok le m2 x2 o2 ap => H _ m2 ?_ x2)
  obtain ⟨k1, k2, k3, k4, k5⟩ := ok
  have r0 : gl_R (m 4, m 3 1) (m 4, m 3 1) := ⟨rfl, h1, fun k k0 k1 => ⟨rfl, h3 k k0 k1⟩⟩
  have r5 := gl_R_ap k5 (gl_R_ap k4 (gl_R_ap k3 (gl_R_ap k2 (gl_R_ap k1 r0 4 (Nat.le_refl _)) 4 (Nat.le_refl _)) 4 (Nat.le_refl _)) 4 (Nat.le_refl _)) 4 (Nat.le_refl _)
  have r5 : gl_R (gl_a5 a b c d e (m 4, m 3 1)) (gl_a5 a b c d e (m 4, m 3 1)) := r5
  have n5 : (gl_a5 a b c d e (m 4, m 3 1)).2 = m 3 1 + gl_s5 a b c d e := by
    unfold gl_a5 gl_s5
    rw [gl_ap_2, gl_ap_2, gl_ap_2, gl_ap_2, gl_ap_2]
    omega
  rw [← ap] at r5 n5
  obtain ⟨_, q2, q3⟩ := r5
  have q2 : 0 ≤ m2 3 1 := q2
  have n5 : m2 3 1 = m 3 1 + gl_s5 a b c d e := n5
  refine ⟨⟨q2, by omega, fun k k0 k1 => (q3 k k0 k1).2⟩, by rw [x2 2 (by decide), x2 36 (by decide), x2 41 (by decide)]; exact h4, G, z, t, ?_⟩
  unfold gk_fo gk_mem gk_ue at fo ⊢
  rw [x2 0 (by decide), x2 41 (by decide), x2 42 (by decide), x2 66 (by decide), x2 67 (by decide)]
  exact fo
/-- reading -/
theorem gj_read {K : Int} {m : gh_M} {Q : Int → gh_M → Prop} (h : gj_A K m) (H0 : ∀ m1 f, m1 2 10 = 0 → 1 ≤ f → f ≤ 5 → m1 5 1 = f → 0 ≤ m1 5 2 → m1 0 = m 0 → m1 0 1 = m 0 1 → Q (-10 - f) m1) (H1 : ∀ m1 G, gj_S K 0 G m1 → m1 1 = m 1 → m1 63 = m 63 → m1 5 1 = 0 → m1 5 2 = -1 → m1 26 3 = 0 → Q (gm_R G) m1) : w_House_read m Q := by
  have hK := gj_A_K h
  obtain ⟨⟨c0, c240, c3⟩, ⟨n2, g9, m1r, u0⟩, G0, z0, t0, fo⟩ := h
  have ct : gr_ct (m 4) (m 3 1) m := ⟨rfl, c0, c240, fun k k0 k1 => ⟨rfl, c3 k k0 k1⟩⟩
  unfold w_House_read
  refine go_run ct (fun m1 r f pl S x1 o1 res e51 e52 cs => ?_)
  have f9 := gj_res c0 res
  rcases cs with ⟨r0, fn⟩ | ⟨r1, f0, rc, iv, st, nt0⟩
  · rw [r0, e51]
    exact ⟨fun _ => ⟨by omega, H0 m1 f (by rw [x1 2 (by decide)]; exact n2) (by omega) f9.2.1 e51 (by rw [e52]; exact f9.2.2.1 fn) (x1 0 (by decide)) (by rw [x1 0 (by decide)])⟩, fun z => absurd rfl z⟩
  rw [r1]
  refine ⟨fun z => absurd z (by decide), fun _ => ?_⟩
  rw [f0] at res e51 f9
  have pl1 := f9.2.2.2 rfl
  have fin := go_fin_of c0 c240 res iv st nt0
  have hG := go_fin_ok fin
  obtain ⟨G, hGG⟩ : ∃ G, G = go_G (m 4) (m 3 1) S := ⟨_, rfl⟩
  rw [← hGG] at hG
  refine go_fill fin rc (fun m2 x2 e130 hC rg rr keys => ?_)
  rw [← hGG] at hC rg
  refine gm_find hG hC (fun m3 x3 fct fct2 => ?_)
  obtain ⟨m4, hm4⟩ : ∃ m4, m4 = gh_u (gh_u (gh_u m3 2 10 1) 26 3 0) 58 2 0 := ⟨_, rfl⟩
  rw [← hm4]
  have x4 : gx [2, 26, 58] m3 m4 := by
    rw [hm4]
    exact gx_u (gx_u (gx_u gx_rf (by decide)) (by decide)) (by decide)
  have s2 : m4 2 10 = 1 := by
    rw [hm4, gh_u_a (by decide), gh_u_a (by decide), gh_u_s]
  have s26 : m4 26 3 = 0 := by
    rw [hm4, gh_u_a (by decide), gh_u_s]
  clear hm4
  have x04 : gx [2, 3, 5, 6, 7, 8, 9, 10, 11, 12, 13, 14, 15, 16, 17, 18, 19, 20, 21, 22, 23, 24, 25, 26, 58] m m4 := gx_t (gx_sub x1 (by decide)) (gx_t (gx_sub x2 (by decide)) (gx_t (gx_sub x3 (by decide)) (gx_sub x4 (by decide))))
  refine gl_changed (K := K) (G := G) (by decide) (by decide) (by rw [x04 36 (by decide)]; exact g9) (fun m5 x5 k30 g9' bits r7 e41 e11 p47 => ?_)
  rw [x04 36 (by decide)] at bits r7
  rw [x04 41 (by decide)] at e41 e11
  have x25 : gx [2, 20, 21, 22, 23, 24, 25, 26, 30, 36, 41, 47, 58] m2 m5 := gx_t (gx_sub x3 (by decide)) (gx_t (gx_sub x4 (by decide)) (gx_sub x5 (by decide)))
  have x35 : gx [2, 26, 30, 36, 41, 47, 58] m3 m5 := gx_t (gx_sub x4 (by decide)) (gx_sub x5 (by decide))
  have x05 : gx [2, 3, 5, 6, 7, 8, 9, 10, 11, 12, 13, 14, 15, 16, 17, 18, 19, 20, 21, 22, 23, 24, 25, 26, 30, 36, 41, 47, 58] m m5 := gx_t (gx_sub x04 (by decide)) (gx_sub x5 (by decide))
  have eR : m5 13 2 = gm_R G := by
    rw [x25 13 (by decide)]
    exact hC.2.1
  rw [eR]
  have n26 : m5 26 3 = 0 := by
    rw [x5 26 (by decide)]
    exact s26
  have k36 : m5 36 7 = -1 := by
    rw [r7]
    omega
  have fo5 : gk_fo K G (m5 26 3) (m5 27) m5 := gk_fo_new (by omega) fo (x05 0 (by decide)) (x05 67 (by decide)) e41 (by
    rw [e11]
    have := fo.2.1
    omega)
  have e5 : m5 5 = m1 5 := by
    rw [x5 5 (by decide), x4 5 (by decide), x3 5 (by decide), x2 5 (by decide)]
  refine H1 m5 G ⟨?_, ⟨hG, ?_, ?_⟩, ⟨?_, ?_⟩, ⟨by omega, by omega, fun k k0 k1 => by omega⟩, ⟨fun z => absurd k30 z, ⟨g9', fun k k0 hk => ?_⟩, ⟨by omega, by omega, fun j j0 j1 => by omega⟩⟩, gl_c4_of fo5, ?_, ⟨by rw [p47]; decide, fun z => absurd p47 z⟩⟩ (x05 1 (by decide)) (x05 63 (by decide)) (by rw [e5]; exact e51) (by rw [e5, e52]; exact pl1) n26
  · rw [x5 2 (by decide), s2]
    decide
  · unfold gm_C at hC ⊢
    rw [x25 13 (by decide), x25 16 (by decide), x25 17 (by decide), x25 19 (by decide)]
    exact hC
  · rw [x25 14 (by decide), x25 15 (by decide)]
    exact rg
  · unfold gm_fct at fct ⊢
    rw [x35 20 (by decide), x35 21 (by decide)]
    exact fct
  · unfold gm_fct2 at fct2 ⊢
    rw [x35 20 (by decide), x35 22 (by decide), x35 23 (by decide), x35 24 (by decide), x35 25 (by decide)]
    exact fct2
  · have := ((bits k k0).mp hk).2
    omega
  · rw [e41 9 (by decide)]
    exact u0
