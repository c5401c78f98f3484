/-! WHAT THE CLASS KEEPS, and its calls: the class alone -/
def gj_pk (G : gm_G) (m : gh_M) : Prop := (0 ≤ m 47 4 ∧ m 47 4 ≤ 300) ∧ (m 47 4 ≠ 0 → gk_C G (m 26 3) (m 27) 0 0 (m 26 3) (fun _ => False) ≠ 0)
/-- with a grammar -/
def gj_S (K u : Int) (G : gm_G) (m : gh_M) : Prop := m 2 10 ≠ 0 ∧ (gm_ok G ∧ gm_C m G ∧ gm_rg G (m 14) (m 15)) ∧ (gm_fct G m ∧ gm_fct2 G m) ∧ gt_t m ∧ (gl_c1 G m ∧ gl_c2 G m ∧ gl_c3 G m) ∧ gl_c4 K G m ∧ m 41 9 ≤ u ∧ gj_pk G m
/-- what calls that only look leave -/
def gj_f (m m1 : gh_M) : Prop := ∀ a : Int, ((1 ≤ a ∧ a ≤ 29) ∨ (63 ≤ a ∧ a ≤ 65)) → m1 a = m a
theorem gj_fx {S : List Int} {m m1 : gh_M} (x : gx S m m1) (hS : S.all (fun s => decide (s = 0 ∨ (30 ≤ s ∧ s ≤ 62) ∨ 66 ≤ s)) = true) : gj_f m m1 := fun a h => x a (fun z => by
  have := List.all_eq_true.mp hS a z
  simp only [decide_eq_true_eq] at this
  omega)
theorem gj_ft {m m1 m2 : gh_M} (h1 : gj_f m m1) (h2 : gj_f m1 m2) : gj_f m m2 := fun a h => (h2 a h).trans (h1 a h)
theorem gj_fr {m : gh_M} : gj_f m m := fun _ _ => rfl
theorem gj_q {K u u2 : Int} {G : gm_G} {m m2 : gh_M} (s : ∀ a, 1 ≤ a → a ≤ 27 → m2 a = m a) (bu : m2 41 9 ≤ u2) (c1 : gl_c1 G m2) (c2 : gl_c2 G m2) (c3 : gl_c3 G m2) (c4 : gl_c4 K G m2) (pk : gj_pk G m2) (j : gj_S K u G m) : gj_S K u2 G m2 := by
  obtain ⟨j1, ⟨hG, hC, rg⟩, ⟨f1, f2⟩, ht, _, _, _, _⟩ := j
  refine ⟨by rw [s 2 (by decide) (by decide)]; exact j1, ⟨hG, ?_, ?_⟩, ⟨?_, ?_⟩, ?_, ⟨c1, c2, c3⟩, c4, bu, pk⟩
  · unfold gm_C at hC ⊢
    rw [s 13 (by decide) (by decide), s 16 (by decide) (by decide), s 17 (by decide) (by decide), s 19 (by decide) (by decide)]
    exact hC
  · rw [s 14 (by decide) (by decide), s 15 (by decide) (by decide)]
    exact rg
  · unfold gm_fct at f1 ⊢
    rw [s 20 (by decide) (by decide), s 21 (by decide) (by decide)]
    exact f1
  · unfold gm_fct2 at f2 ⊢
    rw [s 20 (by decide) (by decide), s 22 (by decide) (by decide), s 23 (by decide) (by decide), s 24 (by decide) (by decide), s 25 (by decide) (by decide)]
    exact f2
  · unfold gt_t at ht ⊢
    rw [s 26 (by decide) (by decide), s 27 (by decide) (by decide)]
    exact ht
theorem gj_pk_x {G : gm_G} {m m2 : gh_M} (h26 : m2 26 3 = m 26 3) (h27 : m2 27 = m 27) (h47 : m2 47 4 = m 47 4) (h : gj_pk G m) : gj_pk G m2 := by
  unfold gj_pk at h ⊢
  rw [h26, h27, h47]
  exact h
theorem gj_SX {K u : Int} {G : gm_G} {m : gh_M} (j : gj_S K u G m) : gj_X G (m 21) (gb (m 20 5)) := by
  obtain ⟨_, ⟨hG, _, _⟩, ⟨f1, _⟩, _⟩ := j
  obtain ⟨_, ⟨l1, l2, l3⟩, _, ⟨fu, fu'⟩, _⟩ := f1
  exact ⟨hG, l1, l2, l3, fun r r0 r1 => (fu' r r0).trans ⟨fun y => y.2, fun y => ⟨r1, y⟩⟩⟩
section G30
variable {K u : Int} {G : gm_G} {m : gh_M} {Q : Int → gh_M → Prop} {v : Int}
theorem gj_refresh (j : gj_S K u G m) (H : ∀ m1, gj_S K u G m1 → gt_ch G m1 → gj_f m m1 → Q 0 m1) : w_Chart_refresh m Q := by
  have j0 := j
  obtain ⟨j1, ⟨hG, hC, rg⟩, ⟨f1, f2⟩, ht, ⟨b1, b2, b3⟩, c4, bu, pk⟩ := j
  refine gt_refresh hG hC ht f1.2.2.2.1.1 b1 (fun m1 x1 n1 _ ch => H m1 ?_ ch (gj_fx x1 (by decide)))
  have e26 : m1 26 3 = m 26 3 := by rw [x1 26 (by decide)]
  have e27 := x1 27 (by decide)
  exact gj_q (fun a p q => x1 a (fun z => by
    simp only [List.mem_cons, List.not_mem_nil, or_false] at z
    omega)) (by rw [x1 41 (by decide)]; exact bu) (fun _ => ch) (gl_c2_x (x1 21 (by decide)) e26 e27 (by rw [x1 36 (by decide)]) (x1 37 (by decide)) b2) (gl_c3_x (x1 20 (by decide)) (x1 21 (by decide)) e26 e27 (by rw [x1 36 (by decide)]) (x1 39 (by decide)) b3) (gl_c4_x (x1 0 (by decide)) e26 e27 (x1 41 (by decide)) (x1 42 (by decide)) (x1 66 (by decide)) (x1 67 (by decide)) c4) (gj_pk_x e26 e27 (by rw [x1 47 (by decide)]) pk) j0
theorem gj_t (j : gj_S K u G m) : gm_ok G ∧ 0 ≤ m 26 3 ∧ m 26 3 ≤ 8 ∧ ∀ k, 0 ≤ k → k < m 26 3 → 0 ≤ m 27 k ∧ m 27 k < 26 := ⟨j.2.1.1, j.2.2.2.1.1, j.2.2.2.1.2.1, j.2.2.2.1.2.2⟩
theorem gj_place (j : gj_S K u G m) (hv : ¬ v < 0 ∧ v ≤ m 26 3) (H : ∀ m1, gj_S K u G m1 → gt_ch G m1 → gj_f m m1 → k_Chart_covers 0 0 v ∧ (p_Chart_covers 0 0 v m1 ↔ gt_M G (m 26 3) (m 27) 0 0 v) → Q 0 m1) : w_Chart_refresh m Q := by
  refine gj_refresh j (fun m1 j1 ch f => H m1 j1 ch f ?_)
  obtain ⟨hG, t0, t8, _⟩ := gj_t j1
  have hN := hG.1
  have f26 := f 26 (by decide)
  have cv := gl_covers hG j1.2.2.2.1 ch (n := 0) (i := 0) (k := v) (Int.le_refl _) (by omega) (Int.le_refl _) t0 (by omega) (by rw [f26]; exact hv.2)
  rw [f26, f 27 (by decide)] at cv
  exact cv
theorem gj_accepts (j : gj_S K u G m) (hv : ¬ v < 0 ∧ v ≤ m 26 3) (H : ∀ m1, gj_S K u G m1 → gj_f m m1 → Q (gt_ib (gt_M G (m 26 3) (m 27) 0 0 v)) m1) : w_House_accepts v m Q := by
  refine ⟨fun z => absurd z j.1, fun _ => ⟨fun _ => gj_place j hv (fun m1 j1 ch f cv => ?_), fun z => absurd hv z⟩⟩
  refine ⟨cv.1, ?_⟩
  rw [gl_ifib cv.2]
  exact H m1 j1 f
theorem gj_makes (j : gj_S K u G m) (hv : ¬ v < 0 ∧ v ≤ m 26 3) (H : ∀ m1, gj_S K u G m1 → gj_f m m1 → Q (gt_ib (gt_M G (m 26 3) (m 27) 0 0 v)) m1) : w_House_makes 0 0 v m Q := by
  obtain ⟨hG, t0, t8, _⟩ := gj_t j
  have hN := hG.1
  have hC := j.2.1.2.1.1
  refine ⟨True, fun _ => ⟨fun _ => ⟨fun z => absurd z j.1, fun _ => gj_place j hv (fun m1 j1 ch f cv => ⟨cv.1, ?_⟩)⟩, fun z => absurd (by omega) z⟩, fun _ => trivial, fun z => absurd (Or.inr ⟨⟨by decide, by rw [hC]; omega⟩, ⟨by decide, t0⟩, hv⟩) z⟩
  rw [gl_ifib cv.2]
  exact H m1 j1 f
theorem gj_properly (j : gj_S K u G m) (hv : ¬ v < 0 ∧ v ≤ m 26 3) (H : ∀ m1, gj_S K u G m1 → gj_f m m1 → Q (gt_ib (0 < v ∧ gt_M G (m 26 3) (m 27) 0 0 v)) m1) : w_House_properly v m Q := by
  refine ⟨fun z => absurd z j.1, fun _ => ⟨fun _ => gj_place j hv (fun m1 j1 ch f cv => ?_), fun z => absurd hv z⟩⟩
  refine ⟨fun _ => cv.1, ?_⟩
  rw [gl_ifib (P := 0 < v ∧ gt_M G (m 26 3) (m 27) 0 0 v) ⟨fun y => ⟨by omega, cv.2.mp y.2⟩, fun y => ⟨by omega, cv.2.mpr y.2⟩⟩]
  exact H m1 j1 f
theorem gj_next (j : gj_S K u G m) (hv : ¬ v < 0 ∧ v ≤ m 26 3) (H : ∀ m1 r, gj_S K u G m1 → gj_f m m1 → gl_nv G m v r → Q r m1) : w_House_next v m Q := by
  refine ⟨fun z => absurd z j.1, fun _ => ⟨fun _ => gj_refresh j (fun m1 j1 ch f => ?_), fun z => absurd hv z⟩⟩
  obtain ⟨hG, t0, t8, _⟩ := gj_t j
  have f26 := f 26 (by decide)
  refine ⟨by omega, by omega, H m1 _ j1 f ?_⟩
  have c := ch.2.2.2 v (by omega) (by rw [f26]; exact hv.2)
  rw [f26, f 27 (by decide), f 20 (by decide)] at c
  exact c
theorem gj_itemsv (j : gj_S K u G m) (hv : ¬ v < 0 ∧ v ≤ m 26 3) (H : ∀ m1, gj_S K u G m1 → gj_f m m1 → Q (gl_iv G m v) m1) : w_House_items v m Q := by
  refine ⟨fun z => absurd z j.1, fun _ => ⟨fun _ => gj_refresh j (fun m1 j1 ch f => ?_), fun z => absurd hv z⟩⟩
  obtain ⟨hG, t0, t8, _⟩ := gj_t j
  refine ⟨by omega, by omega, ?_⟩
  have c := ch.2.2.1 v (by omega) (by omega)
  rw [f 26 (by decide), f 27 (by decide)] at c
  rw [c]
  exact H m1 j1 f
/-- what is wanted behind the first k letters -/
def gj_wv (G : gm_G) (m : gh_M) (k v : Int) : Prop := ∃ P, gw_P G (m 26 3) (m 27) (m 21) k P ∧ v = if P 0 0 < 16777216 then P 0 0 else -1
theorem gj_wv_of (hG : gm_ok G) {k : Int} (k1 : k ≤ m 26 3) (h : gl_wv G (m 21) (m 27) k v) : gj_wv G m k v := by
  obtain ⟨z, t', P, h1, h2, h3, h4, h5⟩ := h
  exact ⟨P, gl_P_cut hG h1 k1 h3 h4, h5⟩
theorem gj_end (j : gj_S K u G m) (hv : ¬ v < 0 ∧ v ≤ m 26 3) (H : ∀ m1 r, gj_S K u G m1 → gj_f m m1 → gj_wv G m v r → Q r m1) : w_House_end v m Q := by
  refine ⟨fun z => absurd z j.1, fun _ => ⟨fun _ => gj_refresh j (fun m1 j1 ch f => ?_), fun z => absurd hv z⟩⟩
  have e26 : m1 26 3 = m 26 3 := by rw [f 26 (by decide)]
  have e27 := f 27 (by decide)
  have e21 := f 21 (by decide)
  have J0 := j1
  obtain ⟨j1, ⟨hG, hC, rg⟩, ⟨f1, f2⟩, ht, ⟨b1, b2, b3⟩, c4, bu, pk⟩ := j1
  have l1 := f1.2.1.1
  have t8 := ht.2.1
  obtain ⟨g9, gk⟩ := b2
  have bt := gb_test0 (x := m1 36 4) (i := v) (gbs_le g9 (by decide)) (by omega) (by omega)
  have v0 : 0 ≤ v := by omega
  refine ⟨fun m' => gj_S K u G m' ∧ gj_f m m' ∧ gl_wv G (m 21) (m 27) v (m' 37 v), fun m' ⟨h1, hf, h2⟩ => ⟨by omega, by omega, H m' _ h1 hf (gj_wv_of hG hv.2 h2)⟩, fun z => ?_, fun z => ⟨J0, f, ?_⟩⟩
  · obtain ⟨m2, hm2⟩ : ∃ m2, m2 = gh_u m1 36 4 (gh_ior_f (m1 36 4) (gh_ishl_f 1 v)) := ⟨_, rfl⟩
    rw [← hm2]
    have x2 : gx [36] m1 m2 := by
      rw [hm2]
      exact gx_one _ _ _ _
    have o2 : ∀ y, y ≠ 4 → m2 36 y = m1 36 y := fun y yn => by
      rw [hm2, gh_u_i yn]
    have s2 : m2 36 4 = gh_ior_f (m1 36 4) (gh_ishl_f 1 v) := by
      rw [hm2, gh_u_s]
    clear hm2
    have ht2 : gt_t m2 := by
      unfold gt_t
      rw [x2 26 (by decide), x2 27 (by decide)]
      exact ht
    have full2 : gt_full G m2 := by
      unfold gt_full gt_tab
      rw [x2 31 (by decide), x2 26 (by decide), x2 27 (by decide)]
      exact ch.1
    refine gw_findWanted hG (gm_C_x x2 (by decide) hC) ht2 full2 (by rw [x2 21 (by decide)]; exact l1) v0 (by rw [x2 26 (by decide), e26]; exact hv.2) (fun m3 P x3 hP => ⟨v0, by omega, ?_⟩)
    rw [x2 26 (by decide), x2 27 (by decide), x2 21 (by decide)] at hP
    obtain ⟨r, hr⟩ : ∃ r, r = (if P 0 0 < 16777216 then P 0 0 else -1) := ⟨_, rfl⟩
    rw [← hr]
    have wv : gl_wv G (m 21) (m 27) v r := by
      rw [← e21, ← e27]
      exact ⟨m1 26 3, m1 27, P, by rw [e26]; exact hv.2, t8, fun _ _ _ => rfl, hP, hr⟩
    obtain ⟨m4, hm4⟩ : ∃ m4, m4 = gh_u m3 37 v r := ⟨_, rfl⟩
    rw [← hm4]
    have x34 : gx [37] m3 m4 := by
      rw [hm4]
      exact gx_one _ _ _ _
    have s37 : m4 37 v = r := by
      rw [hm4, gh_u_s]
    have o37 : ∀ x, x ≠ v → m4 37 x = m1 37 x := fun x xn => by
      rw [hm4, gh_u_i xn, x3 37 (by decide), x2 37 (by decide)]
    clear hm4
    have x4 : gx [36, 37, 38] m1 m4 := gx_t (gx_sub x2 (by decide)) (gx_t (gx_sub x3 (by decide)) (gx_sub x34 (by decide)))
    have e36 : m4 36 = m2 36 := by rw [x34 36 (by decide), x3 36 (by decide)]
    have e26' : m4 26 3 = m1 26 3 := by rw [x4 26 (by decide)]
    have f20 := x4 20 (by decide)
    have f21 := x4 21 (by decide)
    have f27 := x4 27 (by decide)
    have one : gbs 9 (gh_ishl_f 1 v) := gbs_one v0 (by omega) (by decide)
    refine ⟨gj_q (fun a p q => x4 a (fun z => by
      simp only [List.mem_cons, List.not_mem_nil, or_false] at z
      omega)) (by rw [x4 41 (by decide)]; exact bu) (gl_c1_x f20 e26' f27 (by rw [x4 30 (by decide)]) (fun a p q => x4 a (fun z => by
      simp only [List.mem_cons, List.not_mem_nil, or_false] at z
      omega)) b1) ⟨?_, fun k k0 hk => ?_⟩ (gl_c3_x f20 f21 e26' f27 (by rw [e36]; exact o2 7 (by decide)) (x4 39 (by decide)) b3) (gl_c4_x (x4 0 (by decide)) e26' f27 (x4 41 (by decide)) (x4 42 (by decide)) (x4 66 (by decide)) (x4 67 (by decide)) c4) (gj_pk_x e26' f27 (by rw [x4 47 (by decide)]) pk) J0, gj_ft f (gj_fx x4 (by decide)), by rw [s37]; exact wv⟩
    · rw [e36, s2]
      exact gbs_or (by decide) g9 one
    · rw [e36, s2, gb_ior (by decide) g9 one, gb_ishl1 v0 (by omega) k0] at hk
      rw [e26', f21, f27]
      by_cases q : k = v
      · rw [q, s37, e26, e21, e27]
        exact ⟨hv.2, wv⟩
      · rw [o37 k q]
        exact gk k k0 (hk.resolve_right q)
  · have hk : gb (m1 36 4) v := by
      by_cases q : gb (m1 36 4) v
      · exact q
      · exact absurd (bt.mpr q) z
    rw [← e21, ← e27]
    exact (gk v v0 hk).2
/-- what it takes to put the text right -/
def gj_rv (G : gm_G) (m : gh_M) (r : Int) : Prop := ∃ C, (∀ j, 0 ≤ j → j ≤ m 26 3 → gr_P G (gb (m 20 5)) (m 21) (m 27) C j) ∧ gr_b G (m 26 3) 16777216 C ∧ ((m 21 0 < 16777216 ∧ r = C 0 0 (m 26 3)) ∨ (¬ m 21 0 < 16777216 ∧ r = -1))
theorem gj_repair (j : gj_S K u G m) (H : ∀ m1 r, gj_S K u G m1 → gj_f m m1 → gj_rv G m r → Q r m1) : w_House_repair m Q := by
  have j0 := j
  obtain ⟨j1, ⟨hG, hC, rg⟩, ⟨f1, f2⟩, ht, ⟨b1, b2, b3⟩, c4, bu, pk⟩ := j
  have hN0 := hG.1
  have hN := hG.2.1
  have t0 := ht.1
  have t8 := ht.2.1
  obtain ⟨_, ⟨l1, l2, l3⟩, ⟨f3, f3'⟩, ⟨fu, fu'⟩, _⟩ := f1
  have end0 := f3' 0 (Int.le_refl _) (by omega)
  refine ⟨fun z => absurd z j1, fun _ => gr_changes hG hC ht fu l1 (gbs_le f3 (by omega)) b3.1 b3.2.1 b3.2.2 (fun no => ?_) (fun ye m1 x1 o1 s7 rd => ?_)⟩
  · obtain ⟨C, c1, c2, c3⟩ := gl_exC hG (U := gb (m 20 5)) (t := m 27) l1 8
    have hp : ∀ j, 0 ≤ j → j ≤ m 26 3 → gr_P G (gb (m 20 5)) (m 21) (m 27) C j := fun j j0 jz => ⟨fun n n0 n1 => c2 n j n0 n1, fun i i0 ij => c3 i j i0 ij (by omega) (by omega)⟩
    exact H m (-1) j0 gj_fr ⟨C, hp, fun n i j n0 n1 i0 ij jz => c1 n i j n0 n1 i0 ij (by omega) (by omega), Or.inr ⟨fun y => no (end0.mpr y), rfl⟩⟩
  · have e26' : m1 26 3 = m 26 3 := by rw [x1 26 (by decide)]
    have f20 := x1 20 (by decide)
    have f21 := x1 21 (by decide)
    have f27 := x1 27 (by decide)
    have J1 : gj_S K u G m1 := gj_q (fun a p q => x1 a (fun z => by
      simp only [List.mem_cons, List.not_mem_nil, or_false] at z
      omega)) (by rw [x1 41 (by decide)]; exact bu) (gl_c1_x f20 e26' f27 (by rw [x1 30 (by decide)]) (fun a p q => x1 a (fun z => by
      simp only [List.mem_cons, List.not_mem_nil, or_false] at z
      omega)) b1) (gl_c2_x f21 e26' f27 (o1 4 (by decide)) (x1 37 (by decide)) b2) ⟨by omega, by rw [s7, e26']; exact Int.le_refl _, by rw [s7]; exact rd⟩ (gl_c4_x (x1 0 (by decide)) e26' f27 (x1 41 (by decide)) (x1 42 (by decide)) (x1 66 (by decide)) (x1 67 (by decide)) c4) (gj_pk_x e26' f27 (by rw [x1 47 (by decide)]) pk) j0
    have hp : ∀ j, 0 ≤ j → j ≤ m 26 3 → gr_P G (gb (m 20 5)) (m 21) (m 27) (gr_C m1) j := fun j j0 jz => by
      have := rd j j0 jz
      rw [f20, f21, f27] at this
      exact this
    have hb : gr_b G (m 26 3) 16777216 (gr_C m1) := fun n i j n0 n1 i0 ij jz => gr_rdy_r (by rw [f21]; exact l1) rd n0 n1 i0 ij jz
    exact H m1 _ J1 (gj_fx x1 (by decide)) ⟨gr_C m1, hp, hb, Or.inl ⟨end0.mp ye, rfl⟩⟩
theorem gj_fa (j : gj_S K u G m) : gk_fa G (m 20 1) (m 24) := by
  obtain ⟨_, _, ⟨f1, f2⟩, _⟩ := j
  exact ⟨f1.1.2.1, f2.1.1, f2.1.2⟩
theorem gj_treesOf (j : gj_S K u G m) (hu : u ≤ 2000000) (ch : gt_ch G m) (hv : ¬ v < 0 ∧ v ≤ m 26 3) (H : ∀ m1, gj_S K (u + 81) G m1 → gt_ch G m1 → gj_f m m1 → m1 47 = m 47 → v ≤ m1 41 11 → Q (gk_C G (m 26 3) (m 27) 0 0 v (fun _ => False)) m1) : w_Forest_treesOf 0 0 v m Q := by
  have j0 := j
  have fa := gj_fa j
  obtain ⟨j1, ⟨hG, hC, rg⟩, ⟨f1, f2⟩, ht, ⟨b1, b2, b3⟩, c4, bu, pk⟩ := j
  have hN0 := hG.1
  have cx : gk_cx G (m 26 3) (m 27) (m 24) m := ⟨hC, ht, ch.1, rg, rfl, rfl, rfl⟩
  refine gk_treesOf hG fa (Int.le_refl _) (by omega) (Int.le_refl _) (by omega) hv.2 cx c4.1 (by omega) (fun m1 x1 o1 fo l11 l9 _ => ?_)
  have e26' : m1 26 3 = m 26 3 := by rw [x1 26 (by decide)]
  have f20 := x1 20 (by decide)
  have f21 := x1 21 (by decide)
  have f27 := x1 27 (by decide)
  have J1 : gj_S K (u + 81) G m1 := gj_q (fun a p q => x1 a (fun z => by
    simp only [List.mem_cons, List.not_mem_nil, or_false] at z
    omega)) (by omega) (gl_c1_x f20 e26' f27 (by rw [x1 30 (by decide)]) (fun a p q => x1 a (fun z => by
    simp only [List.mem_cons, List.not_mem_nil, or_false] at z
    omega)) b1) (gl_c2_x f21 e26' f27 (by rw [x1 36 (by decide)]) (x1 37 (by decide)) b2) (gl_c3_x f20 f21 e26' f27 (by rw [x1 36 (by decide)]) (x1 39 (by decide)) b3) (gl_c4_of (by rw [e26', f27]; exact fo)) (gj_pk_x e26' f27 (by rw [x1 47 (by decide)]) pk) j0
  have ch1 : gt_ch G m1 := by
    unfold gt_ch gt_full gt_tab at ch ⊢
    rw [f20, e26', f27, x1 31 (by decide), x1 32 (by decide), x1 34 (by decide), x1 35 (by decide)]
    exact ch
  exact H m1 J1 ch1 (gj_fx x1 (by decide)) (x1 47 (by decide)) l11
theorem gj_treesv (j : gj_S K u G m) (hu : u ≤ 2000000) (hv : ¬ v < 0 ∧ v ≤ m 26 3) (H : ∀ m1 c, gj_S K (u + 81) G m1 → gj_f m m1 → c = gk_C G (m 26 3) (m 27) 0 0 v (fun _ => False) → Q (if c < 1000000000000000000 then c else -2) m1) : w_House_trees 0 0 v m Q := by
  obtain ⟨hG, t0, t8, _⟩ := gj_t j
  have hN := hG.1
  have hC := j.2.1.2.1.1
  refine ⟨True, fun _ => ⟨fun _ => ⟨fun z => absurd z j.1, fun _ => gj_refresh j (fun m1 j1 ch f => ?_)⟩, fun z => absurd (by omega) z⟩, fun _ => trivial, fun z => absurd (Or.inr ⟨⟨by decide, by rw [hC]; omega⟩, ⟨by decide, t0⟩, hv⟩) z⟩
  have f26 := f 26 (by decide)
  refine gj_treesOf j1 hu ch (by rw [f26]; exact hv) (fun m2 j2 _ f2 _ _ => H m2 _ j2 (gj_ft f f2) ?_)
  rw [f26, f 27 (by decide)]
theorem gj_pick (j : gj_S K u G m) (hu : u ≤ 2000000) (hv : ¬ v < 0 ∧ v < 1000000000000000000) (H0 : gk_C G (m 26 3) (m 27) 0 0 (m 26 3) (fun _ => False) ≤ v → ∀ m1, gj_S K (u + 381) G m1 → gj_f m m1 → Q (-1) m1) (H1 : v < gk_C G (m 26 3) (m 27) 0 0 (m 26 3) (fun _ => False) → ∀ (m1 : gh_M) (n : Nat) (tr : Int → Int) (dp : Int), gp_run G (m 26 3) (m 27) v n tr dp [] → (n : Int) ≤ 300 → gj_S K (u + 381) G m1 → gj_f m m1 → m1 47 4 = n → m1 47 5 = dp → (∀ x : Int, 0 ≤ x → x < n → m1 48 x = tr x) → Q n m1) (H2 : v < gk_C G (m 26 3) (m 27) 0 0 (m 26 3) (fun _ => False) → ∀ m1, gj_S K (u + 381) G m1 → gj_f m m1 → Q (-1004) m1) : w_House_pick v m Q := by
  refine ⟨fun _ => ⟨fun z => absurd z j.1, fun _ => gj_refresh j (fun m1 j1 ch f => ?_)⟩, fun z => absurd hv z⟩
  obtain ⟨hG, t0, t8, _⟩ := gj_t j
  have f26 := f 26 (by decide)
  have f27 := f 27 (by decide)
  refine gj_treesOf j1 hu ch ⟨by rw [f26]; omega, Int.le_refl _⟩ (fun m2 j2 ch2 f2 _ l11 => ?_)
  rw [f26, f27]
  have f12 := gj_ft f f2
  have g26 := f12 26 (by decide)
  have g27 := f12 27 (by decide)
  refine ⟨fun lt => ?_, fun ge => H0 (by omega) m2 (gj_q (fun a _ _ => rfl) (by have := j2.2.2.2.2.2.2.1; omega) j2.2.2.2.2.1.1 j2.2.2.2.2.1.2.1 j2.2.2.2.2.1.2.2 j2.2.2.2.2.2.1 j2.2.2.2.2.2.2.2 j2) f12⟩
  have fa := gj_fa j2
  have J2 := j2
  obtain ⟨j1', ⟨hG', hC, rg⟩, ⟨f1', f2'⟩, ht, ⟨b1, b2, b3⟩, c4, bu, pk⟩ := j2
  have cx : gk_cx G (m2 26 3) (m2 27) (m2 24) m2 := ⟨hC, ht, ch2.1, rg, rfl, rfl, rfl⟩
  have lt2 : v < gk_C G (m2 26 3) (m2 27) 0 0 (m2 26 3) (fun _ => False) := by
    rw [g26, g27]
    exact lt
  have keep : ∀ (m3 : gh_M) (ci cj : Int), gx [0, 41, 42, 43, 44, 47, 48, 49, 50, 51, 52, 53, 54, 55, 56, 57, 66, 67] m2 m3 → gk_pk K G (m2 26 3) (m2 27) ci cj m3 → m3 41 9 ≤ m2 41 9 + 300 → (0 ≤ m3 47 4 ∧ m3 47 4 ≤ 300) → gj_S K (u + 381) G m3 := fun m3 ci cj x3 pk3 l9 p4 => by
    have h26 : m3 26 3 = m2 26 3 := by rw [x3 26 (by decide)]
    have h20 := x3 20 (by decide)
    have h21 := x3 21 (by decide)
    have h27 := x3 27 (by decide)
    refine gj_q (fun a p q => x3 a (fun z => by
      simp only [List.mem_cons, List.not_mem_nil, or_false] at z
      omega)) (by omega) (gl_c1_x h20 h26 h27 (by rw [x3 30 (by decide)]) (fun a p q => x3 a (fun z => by
      simp only [List.mem_cons, List.not_mem_nil, or_false] at z
      omega)) b1) (gl_c2_x h21 h26 h27 (by rw [x3 36 (by decide)]) (x3 37 (by decide)) b2) (gl_c3_x h20 h21 h26 h27 (by rw [x3 36 (by decide)]) (x3 39 (by decide)) b3) (gl_c4_of (by rw [h26, h27]; exact pk3.1)) ⟨p4, fun _ => ?_⟩ J2
    rw [h26, h27]
    omega
  refine gp_choose hG fa cx (gl_pk0 c4.1 (by rw [g26, ← f26]; exact l11)) (by omega) lt2 (by omega) (fun m3 n tr dp ci cj run n3 x3 o3 p3 pk3 l9 s4 s5 s48 => ?_) (fun m3 tr dp ci cj L run hL x3 o3 p3 pk3 l9 => ?_)
  · rw [g26, g27] at run
    exact H1 lt m3 n tr dp run n3 (keep m3 ci cj x3 pk3 l9 (by omega)) (gj_ft f12 (gj_fx x3 (by decide))) s4 s5 s48
  · have x3' : gx [0, 41, 42, 43, 44, 47, 48, 49, 50, 51, 52, 53, 54, 55, 56, 57, 66, 67] m2 m3 := gx_sub x3 (by decide)
    exact H2 lt m3 (keep m3 ci cj x3' pk3 l9 (by rw [p3 4 (by decide) (by decide)]; exact pk.1)) (gj_ft f12 (gj_fx x3' (by decide)))
end G30
