/-! WHAT IS WANTED, WHAT IT TAKES, WITHOUT EMPTY RULES AND UNITS, TREES -/
theorem gl_exC {G : gm_G} (hG : gm_ok G) {U : Int → Prop} {S t : Int → Int} (s1 : gm_Lr G S) : ∀ w : Nat, ∃ C : Int → Int → Int → Int, (∀ n i j : Int, 0 ≤ n → n < gm_N G → 0 ≤ i → i ≤ j → j ≤ 8 → j - i ≤ w → 0 ≤ C n i j ∧ C n i j ≤ 16777216) ∧ (∀ n j : Int, 0 ≤ n → n < gm_N G → C n j j = S n) ∧ ∀ i j : Int, 0 ≤ i → i < j → j ≤ 8 → j - i ≤ w → gr_fin G U t C i j
  | 0 => ⟨fun n _ _ => S n, fun n _ _ n0 n1 _ _ _ _ => s1 n n0 n1, fun _ _ _ _ => rfl, fun i j _ a _ b => by
      have b' : j - i ≤ 0 := b
      omega⟩
  | w + 1 => by
    obtain ⟨C, h1, h2, h3⟩ := gl_exC hG (U := U) (t := t) s1 w
    have ew : ((w + 1 : Nat) : Int) = (w : Int) + 1 := by omega
    have ex : ∀ i j : Int, ∃ L : Int → Int, 0 ≤ i → i < j → j ≤ 8 → j - i = w + 1 → gf_r (gm_N G) 16777216 L ∧ gf_cl (gm_R G) (gm_o G) (gr_F G U t C i j) L ∧ gf_so (gm_N G) (gm_R G) 16777216 (gm_o G) (gr_F G U t C i j) L := fun i j => by
      by_cases v : 0 ≤ i ∧ i < j ∧ j ≤ 8 ∧ j - i = w + 1
      · obtain ⟨v1, v2, v3, v4⟩ := v
        obtain ⟨sys, _⟩ := gr_sys hG (U := U) (t := t) (C := C) v1 v2 v3 (fun n e k n0 n1 e0 ek kj ne => (h1 n e k n0 n1 (by omega) ek (by omega) (by omega)).1)
        obtain ⟨L, hL⟩ := gf_ex (by decide) sys
        exact ⟨L, fun _ _ _ _ => hL⟩
      · exact ⟨fun _ => 0, fun a b c d => absurd ⟨a, b, c, d⟩ v⟩
    obtain ⟨L, hL⟩ : ∃ L : Int → Int → Int → Int, ∀ i j : Int, 0 ≤ i → i < j → j ≤ 8 → j - i = w + 1 → gf_r (gm_N G) 16777216 (L i j) ∧ gf_cl (gm_R G) (gm_o G) (gr_F G U t C i j) (L i j) ∧ gf_so (gm_N G) (gm_R G) 16777216 (gm_o G) (gr_F G U t C i j) (L i j) := ⟨fun i j => Classical.choose (ex i j), fun i j => Classical.choose_spec (ex i j)⟩
    obtain ⟨D, hD⟩ : ∃ D : Int → Int → Int → Int, D = fun (n i j : Int) => if j - i = w + 1 then L i j n else C n i j := ⟨_, rfl⟩
    have D1 : ∀ n i j : Int, j - i = w + 1 → D n i j = L i j n := fun n i j y => by
      rw [hD]
      exact if_pos y
    have D2 : ∀ n i j : Int, j - i ≠ w + 1 → D n i j = C n i j := fun n i j y => by
      rw [hD]
      exact if_neg y
    have bd : ∀ n i j : Int, 0 ≤ n → n < gm_N G → 0 ≤ i → i ≤ j → j ≤ 8 → j - i ≤ w + 1 → 0 ≤ D n i j ∧ D n i j ≤ 16777216 := fun n i j n0 n1 i0 ij j8 y => by
      by_cases u : j - i = w + 1
      · rw [D1 n i j u]
        exact (hL i j i0 (by omega) j8 u).1 n n0 n1
      · rw [D2 n i j u]
        exact h1 n i j n0 n1 i0 ij j8 (by omega)
    refine ⟨D, fun n i j n0 n1 i0 ij j8 y => bd n i j n0 n1 i0 ij j8 (by omega), fun n j n0 n1 => ?_, fun i j i0 ij j8 y => ?_⟩
    · rw [D2 n j j (by omega)]
      exact h2 n j n0 n1
    · obtain ⟨sys, _⟩ := gr_sys hG (U := U) (t := t) (C := D) i0 ij j8 (fun n e k n0 n1 e0 ek kj ne => (bd n e k n0 n1 (by omega) ek (by omega) (by omega)).1)
      have nest : ∀ r Z, 0 ≤ r → r < gm_R G → gr_F G U t C i j r Z = gr_F G U t D i j r Z := fun r Z r0 r1 => gr_F_cg hG r0 r1 (fun _ _ _ => rfl) (fun n e k n0 n1 e0 ek kj ne => (D2 n e k (by omega)).symm)
      by_cases u : j - i = w + 1
      · exact gf_lift sys (L := L i j) (fun n n0 n1 => (D1 n i j u).symm) nest (hL i j i0 ij j8 u)
      · exact gf_lift sys (L := fun n => C n i j) (fun n n0 n1 => (D2 n i j u).symm) nest (h3 i j i0 ij j8 (by omega))
def gl_rv (G : gm_G) (A : gh_M) (r : Int) : Prop := ∃ C, (∀ j, 0 ≤ j → j ≤ A 26 3 → gr_P G (gb (A 20 5)) (A 21) (A 27) C j) ∧ gr_b G (A 26 3) 16777216 C ∧ r = if C 0 0 (A 26 3) < 16777216 then C 0 0 (A 26 3) else -1
theorem gl_crepair {K u w : Int} {G : gm_G} {A m : gh_M} {Q : Int → gh_M → Prop} (j : gl_J K u w G A m) (H : ∀ m1 r, gl_J K u w G A m1 → gl_rv G A r → Q r m1) : w_House_repair m Q := by
  obtain ⟨hG, hC, hD, h24, e50, ht, pl, nm, rl, e26, e27, e20, e21⟩ := gl_J_p j
  have j0 := j
  obtain ⟨j1, j2, j3, j4, ⟨j5, j5'⟩, j6, ⟨a1, a2, ⟨b1, b2, b3, b5⟩, a4, a5, a6⟩, j8, j9, _⟩ := j
  obtain ⟨_, _, _, _, _, _, _, f, _, mf⟩ := a1
  have hN0 := hG.1
  have hN := hG.2.1
  have t0 := ht.1
  have t8 := ht.2.1
  obtain ⟨_, ⟨l1, l2, l3⟩, ⟨f3, f3'⟩, ⟨fu, fu'⟩, _⟩ := f
  have hUS : ∀ r, 0 ≤ r → r < gm_R G → (gb (m 20 5) r ↔ gm_lr G (m 21) r 0 < 16777216) := fun r r0 r1 => (fu' r r0).trans ⟨fun y => y.2, fun y => ⟨r1, y⟩⟩
  have end0 := f3' 0 (Int.le_refl _) (by omega)
  refine ⟨fun z => absurd z j1, fun _ => gr_changes hG hC ht fu l1 (gbs_le f3 (by omega)) b3.1 b3.2.1 b3.2.2 (fun no => ?_) (fun ye m1 x1 o1 s7 rd => ?_)⟩
  · obtain ⟨C, c1, c2, c3⟩ := gl_exC hG (U := gb (m 20 5)) (t := m 27) l1 8
    have hp : ∀ j, 0 ≤ j → j ≤ m 26 3 → gr_P G (gb (m 20 5)) (m 21) (m 27) C j := fun j j0 jz => ⟨fun n n0 n1 => c2 n j n0 n1, fun i i0 ij => c3 i j i0 ij (by omega) (by omega)⟩
    have s0 : m 21 0 = 16777216 := by
      have := (l1 0 (Int.le_refl _) (by omega)).2
      have : ¬ m 21 0 < 16777216 := fun y => no (end0.mpr y)
      omega
    have far := gr_far hG l1 l2 hUS (hp (m 26 3) t0 (Int.le_refl _)) (Int.le_refl 0) t0 (Int.le_refl _) (by omega) s0
    refine H m (-1) j0 ⟨C, by rw [← e26, ← e20, ← e21, ← e27]; exact hp, by rw [← e26]; exact fun n i j n0 n1 i0 ij jz => c1 n i j n0 n1 i0 ij (by omega) (by omega), ?_⟩
    rw [← e26, if_neg (by omega)]
  · have e26' : m1 26 3 = m 26 3 := by rw [x1 26 (by decide)]
    have f20 := x1 20 (by decide)
    have f21 := x1 21 (by decide)
    have f27 := x1 27 (by decide)
    have J1 : gl_J K u w G A m1 := gl_J_q (fun a h => x1 a (fun z => by
      simp only [List.mem_cons, List.not_mem_nil, or_false] at z
      omega)) (fun y _ => by rw [x1 63 (by decide)]) (by rw [x1 41 (by decide)]; exact j5) (by rw [x1 63 (by decide)]; exact j5') (gl_c1_x f20 e26' f27 (by rw [x1 30 (by decide)]) (fun a p q => x1 a (fun z => by
      simp only [List.mem_cons, List.not_mem_nil, or_false] at z
      omega)) b1) (gl_c2_x f21 e26' f27 (o1 4 (by decide)) (x1 37 (by decide)) b2) ⟨by omega, by rw [s7, e26']; exact Int.le_refl _, by rw [s7]; exact rd⟩ (gl_c4_x (x1 0 (by decide)) e26' f27 (x1 41 (by decide)) (x1 42 (by decide)) (x1 118 (by decide)) (x1 119 (by decide)) j6) (gl_c5_x f20 (x1 58 (by decide)) b5) (gl_m1_x f20 e26' f27 (x1 82 (by decide)) (by rw [x1 63 (by decide)]) (fun a p q => x1 a (fun z => by
      simp only [List.mem_cons, List.not_mem_nil, or_false] at z
      omega)) a4) (gl_m2_x e26' f27 (by rw [x1 63 (by decide)]) (by rw [x1 63 (by decide)]) (x1 105 (by decide)) (x1 106 (by decide)) a5) (fun y _ => by rw [x1 47 (by decide)]) (x1 48 (by decide)) (fun y _ => by rw [x1 63 (by decide)]) (x1 109 (by decide)) j0
    have hp : ∀ j, 0 ≤ j → j ≤ m 26 3 → gr_P G (gb (m 20 5)) (m 21) (m 27) (gr_C m1) j := fun j j0 jz => by
      have := rd j j0 jz
      rw [f20, f21, f27] at this
      exact this
    have hb : gr_b G (m 26 3) 16777216 (gr_C m1) := fun n i j n0 n1 i0 ij jz => gr_rdy_r (by rw [f21]; exact l1) rd n0 n1 i0 ij jz
    have hu := gr_U_C hG l1 l2 l3 hUS hp hb
    have lt : gr_C m1 0 0 (m 26 3) < 16777216 := by
      have step : ∀ k : Nat, (k : Int) ≤ m 26 3 → gr_C m1 0 (m 26 3 - k) (m 26 3) ≤ k + m 21 0 := by
        intro k
        induction k with
        | zero =>
          intro _
          have e : m 26 3 - ((0 : Nat) : Int) = m 26 3 := by omega
          rw [e, (hp (m 26 3) t0 (Int.le_refl _)).1 0 (Int.le_refl _) (by omega)]
          omega
        | succ k ih =>
          intro hk
          have a := gr_ab hG l3 hp hb hu (n := 0) (p := m 26 3 - k) (q := m 26 3) (Int.le_refl _) (by omega) (by omega) (by omega) (Int.le_refl _)
          have e : m 26 3 - ((k + 1 : Nat) : Int) = m 26 3 - k - 1 := by omega
          rw [e]
          have := ih (by omega)
          omega
      have a := step (m 26 3).toNat (by omega)
      have e : m 26 3 - ((m 26 3).toNat : Int) = 0 := by omega
      rw [e] at a
      have := gm_L_bd hG l1 l2 l3 (Int.le_refl 0) (by omega) (end0.mp ye)
      omega
    refine H m1 _ J1 ⟨gr_C m1, by rw [← e26, ← e20, ← e21, ← e27]; exact hp, by rw [← e26]; exact hb, ?_⟩
    rw [← e26, if_pos lt]
theorem gl_mrepairv {K u w : Int} {G : gm_G} {A m : gh_M} {r : Int} {Q : Int → gh_M → Prop} (j : gl_J K u w G A m) (hr : gl_rv G A r) (H : ∀ m1, gl_J K u w G A m1 → Q r m1) : w_Model_repair m Q := by
  obtain ⟨hG, hC, hD, h24, e50, ht, pl, nm, rl, e26, e27, e20, e21⟩ := gl_J_p j
  obtain ⟨C, c1, c2, c3⟩ := hr
  have g := j.2.2.2.2.2.2.1.1
  have tx := j.2.2.2.2.2.2.1.2.1.2
  obtain ⟨_, _, _, _, _, _, _, f, _, mf⟩ := g
  obtain ⟨_, ⟨l1, l2, l3⟩, _, ⟨fu, fu'⟩, _⟩ := f
  have hUS : ∀ r, 0 ≤ r → r < gm_R G → (gb (m 20 5) r ↔ gm_lr G (m 21) r 0 < 16777216) := fun r r0 r1 => (fu' r r0).trans ⟨fun y => y.2, fun y => ⟨r1, y⟩⟩
  rw [← e26] at c1 c2 c3
  rw [← e20, ← e21, ← e27] at c1
  refine gs_eq hG hD tx h24 l1 l2 l3 hUS c1 c2 (fun m1 x1 => ?_)
  rw [← c3]
  exact H m1 (gl_J_n x1 (by decide) j)
theorem gl_cbehind {K u w : Int} {G : gm_G} {A m1 : gh_M} {v : Int} {Q : Int → gh_M → Prop} (j1 : gl_J K u w G A m1) (ch : gt_ch G m1) (hv : ¬ v < 0 ∧ v ≤ A 26 3) (H : ∀ m2 r, gl_J K u w G A m2 → gx [36, 37, 38] m1 m2 → gl_wv G (A 21) (A 27) v r → Q r m2) : w_Wants_behind v m1 Q := by
  obtain ⟨hG, hC, hD, h24, e50, ht, pl, nm, rl, e26, e27, e20, e21⟩ := gl_J_p j1
  have J0 := j1
  obtain ⟨j1, j2, j3, j4, ⟨j5, j5'⟩, j6, ⟨a1, a2, ⟨b1, b2, b3, b5⟩, a4, a5, a6⟩, j8, j9, _⟩ := j1
  have l1 := a1.2.2.2.2.2.2.2.1.2.1.1
  have t8 := ht.2.1
  obtain ⟨g9, gk⟩ := b2
  have bt := gb_test0 (x := m1 36 4) (i := v) (gbs_le g9 (by decide)) (by omega) (by omega)
  have v0 : 0 ≤ v := by omega
  refine ⟨fun m' => gl_J K u w G A m' ∧ gx [36, 37, 38] m1 m' ∧ gl_wv G (A 21) (A 27) v (m' 37 v), fun m' ⟨h1, hx, h2⟩ => ⟨by omega, by omega, H m' _ h1 hx h2⟩, fun z => ?_, fun z => ⟨J0, gx_rf, ?_⟩⟩
  · obtain ⟨m2, hm2⟩ : ∃ m2, m2 = gh_u m1 36 4 (gh_ior_f (m1 36 4) (gh_ishl_f 1 v)) := ⟨_, rfl⟩
    rw [← hm2]
    have x2 : gx [36] m1 m2 := by
      rw [hm2]
      exact gx_one _ _ _ _
    have o2 : ∀ y, y ≠ 4 → m2 36 y = m1 36 y := fun y yn => by
      rw [hm2, gh_u_i yn]
    have s2 : m2 36 4 = gh_ior_f (m1 36 4) (gh_ishl_f 1 v) := by
      rw [hm2, gh_u_s]
    clear hm2
    have ht2 : gt_t m2 := by
      unfold gt_t
      rw [x2 26 (by decide), x2 27 (by decide)]
      exact ht
    have full2 : gt_full G m2 := by
      unfold gt_full gt_tab
      rw [x2 31 (by decide), x2 26 (by decide), x2 27 (by decide)]
      exact ch.1
    refine gw_findWanted hG (gm_C_x x2 (by decide) hC) ht2 full2 (by rw [x2 21 (by decide)]; exact l1) v0 (by rw [x2 26 (by decide), e26]; exact hv.2) (fun m3 P x3 hP => ⟨v0, by omega, ?_⟩)
    rw [x2 26 (by decide), x2 27 (by decide), x2 21 (by decide)] at hP
    obtain ⟨r, hr⟩ : ∃ r, r = (if P 0 0 < 16777216 then P 0 0 else -1) := ⟨_, rfl⟩
    rw [← hr]
    have wv : gl_wv G (A 21) (A 27) v r := by
      rw [← e21, ← e27]
      exact ⟨m1 26 3, m1 27, P, by rw [e26]; exact hv.2, t8, fun _ _ _ => rfl, hP, hr⟩
    obtain ⟨m4, hm4⟩ : ∃ m4, m4 = gh_u m3 37 v r := ⟨_, rfl⟩
    rw [← hm4]
    have x34 : gx [37] m3 m4 := by
      rw [hm4]
      exact gx_one _ _ _ _
    have s37 : m4 37 v = r := by
      rw [hm4, gh_u_s]
    have o37 : ∀ x, x ≠ v → m4 37 x = m1 37 x := fun x xn => by
      rw [hm4, gh_u_i xn, x3 37 (by decide), x2 37 (by decide)]
    clear hm4
    have x4 : gx [36, 37, 38] m1 m4 := gx_t (gx_sub x2 (by decide)) (gx_t (gx_sub x3 (by decide)) (gx_sub x34 (by decide)))
    have e36 : m4 36 = m2 36 := by rw [x34 36 (by decide), x3 36 (by decide)]
    have e26' : m4 26 3 = m1 26 3 := by rw [x4 26 (by decide)]
    have f20 := x4 20 (by decide)
    have f21 := x4 21 (by decide)
    have f27 := x4 27 (by decide)
    have one : gbs 9 (gh_ishl_f 1 v) := gbs_one v0 (by omega) (by decide)
    refine ⟨gl_J_q (fun a h => x4 a (fun z => by
      simp only [List.mem_cons, List.not_mem_nil, or_false] at z
      omega)) (fun y _ => by rw [x4 63 (by decide)]) (by rw [x4 41 (by decide)]; exact j5) (by rw [x4 63 (by decide)]; exact j5') (gl_c1_x f20 e26' f27 (by rw [x4 30 (by decide)]) (fun a p q => x4 a (fun z => by
      simp only [List.mem_cons, List.not_mem_nil, or_false] at z
      omega)) b1) ⟨?_, fun k k0 hk => ?_⟩ (gl_c3_x f20 f21 e26' f27 (by rw [e36]; exact o2 7 (by decide)) (x4 39 (by decide)) b3) (gl_c4_x (x4 0 (by decide)) e26' f27 (x4 41 (by decide)) (x4 42 (by decide)) (x4 118 (by decide)) (x4 119 (by decide)) j6) (gl_c5_x f20 (x4 58 (by decide)) b5) (gl_m1_x f20 e26' f27 (x4 82 (by decide)) (by rw [x4 63 (by decide)]) (fun a p q => x4 a (fun z => by
      simp only [List.mem_cons, List.not_mem_nil, or_false] at z
      omega)) a4) (gl_m2_x e26' f27 (by rw [x4 63 (by decide)]) (by rw [x4 63 (by decide)]) (x4 105 (by decide)) (x4 106 (by decide)) a5) (fun y _ => by rw [x4 47 (by decide)]) (x4 48 (by decide)) (fun y _ => by rw [x4 63 (by decide)]) (x4 109 (by decide)) J0, x4, by rw [s37]; exact wv⟩
    · rw [e36, s2]
      exact gbs_or (by decide) g9 one
    · rw [e36, s2, gb_ior (by decide) g9 one, gb_ishl1 v0 (by omega) k0] at hk
      rw [e26', f21, f27]
      by_cases q : k = v
      · rw [q, s37, e26, e21, e27]
        exact ⟨hv.2, wv⟩
      · rw [o37 k q]
        exact gk k k0 (hk.resolve_right q)
  · have hk : gb (m1 36 4) v := by
      by_cases q : gb (m1 36 4) v
      · exact q
      · exact absurd (bt.mpr q) z
    rw [← e21, ← e27]
    exact (gk v v0 hk).2
theorem gl_cend {K u w : Int} {G : gm_G} {A m : gh_M} {v : Int} {Q : Int → gh_M → Prop} (j : gl_J K u w G A m) (hv : ¬ v < 0 ∧ v ≤ A 26 3) (H : ∀ m1 r, gl_J K u w G A m1 → gl_wv G (A 21) (A 27) v r → Q r m1) : w_House_end v m Q := by
  have e26m := (gl_J_p j).2.2.2.2.2.2.2.2.2.1
  exact ⟨fun z => absurd z j.1, fun _ => ⟨fun _ => gl_refresh j (fun m1 j1 ch x1 => gl_cbehind j1 ch hv (fun m2 r j2 _ h => H m2 r j2 h)), fun z => absurd (show p_House_isPlace v m from ⟨hv.1, by rw [e26m]; exact hv.2⟩) z⟩⟩
theorem gl_ch_x {G : gm_G} {m m2 : gh_M} (x : gx [36, 37, 38] m m2) (h : gt_ch G m) : gt_ch G m2 := by
  unfold gt_ch gt_full gt_tab at h ⊢
  rw [x 20 (by decide), x 26 (by decide), x 27 (by decide), x 31 (by decide), x 32 (by decide), x 34 (by decide), x 35 (by decide)]
  exact h
theorem gl_mendv {K u w : Int} {G : gm_G} {A m : gh_M} {v r : Int} {Q : Int → gh_M → Prop} (j : gl_J K u w G A m) (hv : ¬ v < 0 ∧ v ≤ A 26 3) (hr : gl_wv G (A 21) (A 27) v r) (H : ∀ m1, gl_J K u w G A m1 → Q r m1) : w_Model_end v m Q := by
  obtain ⟨_, _, _, h24, _, _, pl, _, _, e26m, _⟩ := gl_J_p j
  refine ⟨False, fun z => False.elim z, fun _ => gl_lay j (fun m1 j1 ch x1 => ?_), fun z => absurd ⟨h24, pl v (by rw [e26m]; exact hv)⟩ z⟩
  clear x1 pl e26m j h24
  obtain ⟨hG, hC, hD, h24, e50, ht, pl, nm, rl, e26, e27, e20, e21⟩ := gl_J_p j1
  have g := j1.2.2.2.2.2.2.1.1
  obtain ⟨_, _, _, _, _, _, _, f, _, mf⟩ := g
  obtain ⟨_, ⟨l1, l2, l3⟩, _⟩ := f
  have t8 := ht.2.1
  have v0 : 0 ≤ v := by omega
  have vz : v ≤ m1 26 3 := by rw [e26]; exact hv.2
  obtain ⟨z', t', P, p1, p2, p3, p4, p5⟩ := hr
  have hP : gw_P G (m1 26 3) (m1 27) (m1 21) v P := by
    rw [e21]
    exact gl_P_cut hG p1 vz (fun p q0 q1 => by rw [e27]; exact p3 p q0 q1) p4
  refine gv_findWants hG hD t8 ch.2.2.1 mf.2.1 v0 vz (fun m2 x2 w1 w0 w2 w3 => ?_)
  have eq := gw_eq hG l1 l2 l3 mf.1 v0 vz t8 hP w1 w0 w2 w3
  have bg2 : gd_bg G (m1 26 3) (m1 27) m2 := by
    unfold gd_bg
    rw [x2 98 (by decide)]
    exact ch.2.2.1
  refine gv_end hG (gm_D_x x2 (by decide) hD) t8 bg2 (by rw [x2 82 (by decide)]; exact mf.2.1) w1 v0 vz ?_
  rw [x2 82 (by decide), eq]
  have er : (if gm_mv (P 0 0) = 1000000000 then -1 else gm_mv (P 0 0)) = r := by
    rw [p5]
    unfold gm_mv
    by_cases q : P 0 0 < 16777216
    · rw [if_pos q, if_pos q, if_neg (by omega)]
    · rw [if_neg q, if_neg q, if_pos rfl]
  rw [er]
  exact H m2 (gl_J_n x2 (by decide) j1)
def gl_pv (G : gm_G) (A : gh_M) (v r : Int) : Prop := ∃ a b c, gy_res G (A 20 1) (gb (A 20 5)) (gb (A 20 4)) a b c ∧ r = if v = 0 then a else if v = 1 then b else c
theorem gl_cproper {K u w : Int} {G : gm_G} {A m : gh_M} {v : Int} {Q : Int → gh_M → Prop} (j : gl_J K u w G A m) (hv : ¬ v < 0 ∧ v ≤ 2) (H : ∀ m1 r, gl_J K u w G A m1 → gl_pv G A v r → Q r m1) : w_House_proper v m Q := by
  obtain ⟨hG, hC, hD, h24, e50, ht, pl, nm, rl, e26, e27, e20, e21⟩ := gl_J_p j
  have j0 := j
  obtain ⟨j1, j2, j3, j4, ⟨j5, j5'⟩, j6, ⟨a1, a2, ⟨b1, b2, b3, b5⟩, a4, a5, a6⟩, j8, j9, _⟩ := j
  have hN := hG.2.1
  obtain ⟨⟨f1, _⟩, _, _, ⟨fu, _⟩, _, ⟨f6, _⟩⟩ := a1.2.2.2.2.2.2.2.1
  refine ⟨fun _ => ⟨fun z => absurd z j1, fun _ => gy_find hG hC (gbs_le f1 (by omega)) (gbs_le fu (by decide)) (gbs_le f6 (by omega)) b5 (fun m1 x1 o1 n1 _ res => ?_)⟩, fun z => absurd hv z⟩
  have e26' : m1 26 3 = m 26 3 := by rw [x1 26 (by decide)]
  have f20 := x1 20 (by decide)
  have f21 := x1 21 (by decide)
  have f27 := x1 27 (by decide)
  have J1 : gl_J K u w G A m1 := gl_J_q (fun a h => x1 a (fun z => by
    simp only [List.mem_cons, List.not_mem_nil, or_false] at z
    omega)) (fun y _ => by rw [x1 63 (by decide)]) (by rw [x1 41 (by decide)]; exact j5) (by rw [x1 63 (by decide)]; exact j5') (gl_c1_x f20 e26' f27 (by rw [x1 30 (by decide)]) (fun a p q => x1 a (fun z => by
    simp only [List.mem_cons, List.not_mem_nil, or_false] at z
    omega)) b1) (gl_c2_x f21 e26' f27 (by rw [x1 36 (by decide)]) (x1 37 (by decide)) b2) (gl_c3_x f20 f21 e26' f27 (by rw [x1 36 (by decide)]) (x1 39 (by decide)) b3) (gl_c4_x (x1 0 (by decide)) e26' f27 (x1 41 (by decide)) (x1 42 (by decide)) (x1 118 (by decide)) (x1 119 (by decide)) j6) (fun _ => by rw [f20]; exact res) (gl_m1_x f20 e26' f27 (x1 82 (by decide)) (by rw [x1 63 (by decide)]) (fun a p q => x1 a (fun z => by
    simp only [List.mem_cons, List.not_mem_nil, or_false] at z
    omega)) a4) (gl_m2_x e26' f27 (by rw [x1 63 (by decide)]) (by rw [x1 63 (by decide)]) (x1 105 (by decide)) (x1 106 (by decide)) a5) (fun y _ => by rw [x1 47 (by decide)]) (x1 48 (by decide)) (fun y _ => by rw [x1 63 (by decide)]) (x1 109 (by decide)) j0
  rw [e20] at res
  refine ⟨fun c => H m1 _ J1 ⟨_, _, _, res, ?_⟩, fun c => H m1 _ J1 ⟨_, _, _, res, ?_⟩, fun c c' => H m1 _ J1 ⟨_, _, _, res, ?_⟩⟩
  · rw [if_pos c]
  · rw [if_neg (by omega), if_pos c]
  · rw [if_neg c, if_neg c']
theorem gl_mproperv {K u w : Int} {G : gm_G} {A m : gh_M} {v r : Int} {Q : Int → Prop} (j : gl_J K u w G A m) (hv : ¬ v < 0 ∧ v ≤ 2) (hr : gl_pv G A v r) (H : Q r) : w_Model_proper v m Q := by
  obtain ⟨hG, hC, hD, h24, e50, ht, pl, nm, rl, e26, e27, e20, e21⟩ := gl_J_p j
  have mf := j.2.2.2.2.2.2.1.1.2.2.2.2.2.2.2.2.2
  obtain ⟨a, b, c, r1, r2⟩ := hr
  rw [← e20] at r1
  refine gy_mproper hG hD h24 (by omega) hv.2 mf.2.2.2.2.2.2.2.2 (fun a' b' c' res => ?_)
  obtain ⟨q1, q2, q3⟩ := gy_res_u r1 res
  rw [← q1, ← q2, ← q3, ← r2]
  exact H
theorem gl_cproperly {K u w : Int} {G : gm_G} {A m : gh_M} {v : Int} {Q : Int → gh_M → Prop} (j : gl_J K u w G A m) (hv : ¬ v < 0 ∧ v ≤ A 26 3) (H : ∀ m1, gl_J K u w G A m1 → Q (gt_ib (0 < v ∧ gt_M G (A 26 3) (A 27) 0 0 v)) m1) : w_House_properly v m Q := by
  obtain ⟨hG, hC, hD, h24, e50, ht, pl, nm, rl, e26, e27, e20, e21⟩ := gl_J_p j
  have hN0 := hG.1
  refine ⟨fun z => absurd z j.1, fun _ => ⟨fun _ => gl_refresh j (fun m1 j1 ch x1 => ?_), fun z => absurd (show p_House_isPlace v m from ⟨hv.1, by rw [e26]; exact hv.2⟩) z⟩⟩
  obtain ⟨_, _, _, _, _, ht1, _, _, _, f26, f27, _⟩ := gl_J_p j1
  have cv := gl_covers hG ht1 ch (n := 0) (i := 0) (k := v) (Int.le_refl _) (by omega) (Int.le_refl _) ht1.1 (by omega) (by rw [f26]; exact hv.2)
  refine ⟨fun _ => cv.1, ?_⟩
  rw [f26, f27] at cv
  rw [gl_ifib (P := 0 < v ∧ gt_M G (A 26 3) (A 27) 0 0 v) ⟨fun y => ⟨by omega, cv.2.mp y.2⟩, fun y => ⟨by omega, cv.2.mpr y.2⟩⟩]
  exact H m1 j1
theorem gl_mproperlyv {K u w : Int} {G : gm_G} {A m : gh_M} {v : Int} {Q : Int → gh_M → Prop} (j : gl_J K u w G A m) (hv : ¬ v < 0 ∧ v ≤ A 26 3) (H : ∀ m1, gl_J K u w G A m1 → Q (gt_ib (0 < v ∧ gt_M G (A 26 3) (A 27) 0 0 v)) m1) : w_Model_properly v m Q := by
  obtain ⟨hG, hC, hD, h24, e50, ht, pl, nm, rl, e26, e27, e20, e21⟩ := gl_J_p j
  have g := j.2.2.2.2.2.2.1.1
  have tx := j.2.2.2.2.2.2.1.2.1.2
  have mf := g.2.2.2.2.2.2.2.2.2
  have fc := gy_fc_of (z := m 26 3) (t := m 27) hG ht.2.1 g.2.2.2.2.2.2.2.1
  have q0 := gy_Q_0 hG fc (k := v)
  refine gy_mproperly hG hD tx h24 (by omega) (by rw [e26]; exact hv.2) (pl v (by rw [e26]; exact hv)) mf.2.2.2.2.2.2.2.2 (fun m1 r x1 r01 hr => ?_)
  have e : r = gt_ib (0 < v ∧ gt_M G (A 26 3) (A 27) 0 0 v) := by
    have h := hr.trans q0
    rw [e26, e27] at h
    by_cases y : 0 < v ∧ gt_M G (A 26 3) (A 27) 0 0 v
    · rw [gt_ib_t y]
      exact h.mpr y
    · rw [gt_ib_f y]
      rcases r01 with z | z
      · exact z
      · exact absurd (h.mp z) y
  rw [e]
  exact H m1 (gl_J_n x1 (by decide) j)
