/-! WHAT HOLDS BETWEEN CALLS -/
theorem gl_rng {S : List Int} {m m2 : gh_M} {lo hi : Int} (hx : gx S m m2) (hd : ∀ s, s ∈ S → s < lo ∨ hi < s) : ∀ a, lo ≤ a → a ≤ hi → m2 a = m a := fun a l h => hx a (fun z => by
  have := hd a z
  omega)
def gl_tp (m : gh_M) : Prop := gl_R (m 4, m 3 1) (m 64, m 63 1) ∧ m 3 1 ≤ 240
/-- a name's signs are the same on both sides -/
def gl_nm (m : gh_M) (n : Int) : Prop := (0 ≤ m 75 n ∧ m 75 n ≤ 3) ∧ ∀ k, 0 ≤ k → k < 3 → (k < m 75 n → m 76 (3 * n + k) ≠ 0 ∧ gh_iand_f (gh_ishr_f (m 18 n) (7 * k)) 127 = m 76 (3 * n + k)) ∧ (m 75 n ≤ k → gh_iand_f (gh_ishr_f (m 18 n) (7 * k)) 127 = 0)
def gl_mf (G : gm_G) (m : gh_M) : Prop := (∀ n, 0 ≤ n → n < gm_N G → m 82 n = gm_mv (m 21 n)) ∧ gm_Kr 1000000000 G (m 82) ∧ (∀ r, 0 ≤ r → r < gm_R G → (m 83 r ≠ 0 ↔ gb (m 20 5) r)) ∧ (∀ n, 0 ≤ n → n < gm_N G → (m 84 n ≠ 0 ↔ gb (m 20 3) n)) ∧ (∀ n, 0 ≤ n → n < gm_N G → (m 85 n ≠ 0 ↔ gb (m 20 4) n)) ∧ (∀ n, 0 ≤ n → n < gm_N G → m 86 n = m 22 n) ∧ (∀ n, 0 ≤ n → n < gm_N G → m 87 n = m 23 n) ∧ (∀ n i, 0 ≤ n → n < gm_N G → 0 ≤ i → i < gm_N G → (m 88 (8 * n + i) ≠ 0 ↔ gb (m 24 n) i)) ∧ gy_mh G (gy_P G (m 20 1) (gb (m 20 5)) (gb (m 20 4))) m
/-- the grammar and its facts -/
def gl_gr (G : gm_G) (m : gh_M) : Prop := gm_ok G ∧ gm_C m G ∧ gm_D m G ∧ gm_rg G (m 14) (m 15) ∧ gm_rg G (m 77) (m 78) ∧ (∀ n, 0 ≤ n → n < gm_N G → m 14 n = m 77 n ∧ m 15 n = m 78 n ∧ gl_nm m n) ∧ m 13 0 = m 63 25 ∧ gm_fct G m ∧ gm_fct2 G m ∧ gl_mf G m
theorem gl_gr_x {G : gm_G} {m m2 : gh_M} (h1 : ∀ a, 13 ≤ a → a ≤ 25 → m2 a = m a) (h2 : ∀ a, 75 ≤ a → a ≤ 95 → m2 a = m a) (h3 : ∀ y, (25 ≤ y ∧ y ≤ 27) ∨ y = 42 → m2 63 y = m 63 y) (h : gl_gr G m) : gl_gr G m2 := by
  unfold gl_gr gm_C gm_D gl_nm gm_fct gm_fct2 gl_mf gy_mh gy_mr at h ⊢
  rw [h1 13 (by decide) (by decide), h1 14 (by decide) (by decide), h1 15 (by decide) (by decide), h1 16 (by decide) (by decide), h1 17 (by decide) (by decide), h1 18 (by decide) (by decide), h1 19 (by decide) (by decide), h1 20 (by decide) (by decide), h1 21 (by decide) (by decide), h1 22 (by decide) (by decide), h1 23 (by decide) (by decide), h1 24 (by decide) (by decide), h1 25 (by decide) (by decide), h2 75 (by decide) (by decide), h2 76 (by decide) (by decide), h2 77 (by decide) (by decide), h2 78 (by decide) (by decide), h2 79 (by decide) (by decide), h2 80 (by decide) (by decide), h2 81 (by decide) (by decide), h2 82 (by decide) (by decide), h2 83 (by decide) (by decide), h2 84 (by decide) (by decide), h2 85 (by decide) (by decide), h2 86 (by decide) (by decide), h2 87 (by decide) (by decide), h2 88 (by decide) (by decide), h2 89 (by decide) (by decide), h2 90 (by decide) (by decide), h2 92 (by decide) (by decide), h3 25 (by decide), h3 26 (by decide), h3 27 (by decide), h3 42 (by decide)]
  exact h
/-- the text -/
def gl_tx (m : gh_M) : Prop := gt_t m ∧ gd_t m (m 26 3) (m 27)
theorem gl_tx_x {m m2 : gh_M} (h26 : m2 26 3 = m 26 3) (h27 : m2 27 = m 27) (h96 : m2 96 = m 96) (h50 : m2 63 50 = m 63 50) (h : gl_tx m) : gl_tx m2 := by
  unfold gl_tx gt_t gd_t at h ⊢
  rw [h26, h27, h96, h50]
  exact h
/-- what the class keeps -/
def gl_c1 (G : gm_G) (m : gh_M) : Prop := m 30 3 ≠ 0 → gt_ch G m
theorem gl_c1_x {G : gm_G} {m m2 : gh_M} (h20 : m2 20 = m 20) (h26 : m2 26 3 = m 26 3) (h27 : m2 27 = m 27) (h30 : m2 30 3 = m 30 3) (h31 : ∀ a, 31 ≤ a → a ≤ 35 → m2 a = m a) (h : gl_c1 G m) : gl_c1 G m2 := by
  unfold gl_c1 gt_ch gt_full gt_tab at h ⊢
  rw [h20, h26, h27, h30, h31 31 (by decide) (by decide), h31 32 (by decide) (by decide), h31 34 (by decide) (by decide), h31 35 (by decide) (by decide)]
  exact h
def gl_wv (G : gm_G) (S t : Int → Int) (k v : Int) : Prop := ∃ z t' P, k ≤ z ∧ z ≤ 8 ∧ (∀ p, 0 ≤ p → p < k → t' p = t p) ∧ gw_P G z t' S k P ∧ v = if P 0 0 < 16777216 then P 0 0 else -1
def gl_c2 (G : gm_G) (m : gh_M) : Prop := gbs 9 (m 36 4) ∧ ∀ k, 0 ≤ k → gb (m 36 4) k → k ≤ m 26 3 ∧ gl_wv G (m 21) (m 27) k (m 37 k)
theorem gl_c2_x {G : gm_G} {m m2 : gh_M} (h21 : m2 21 = m 21) (h26 : m2 26 3 = m 26 3) (h27 : m2 27 = m 27) (h36 : m2 36 4 = m 36 4) (h37 : m2 37 = m 37) (h : gl_c2 G m) : gl_c2 G m2 := by
  unfold gl_c2 at h ⊢
  rw [h21, h26, h27, h36, h37]
  exact h
def gl_c3 (G : gm_G) (m : gh_M) : Prop := -1 ≤ m 36 7 ∧ m 36 7 ≤ m 26 3 ∧ gr_rdy G m (m 36 7)
theorem gl_c3_x {G : gm_G} {m m2 : gh_M} (h20 : m2 20 = m 20) (h21 : m2 21 = m 21) (h26 : m2 26 3 = m 26 3) (h27 : m2 27 = m 27) (h36 : m2 36 7 = m 36 7) (h39 : m2 39 = m 39) (h : gl_c3 G m) : gl_c3 G m2 := by
  have e : gr_C m2 = gr_C m := by
    funext n i j
    unfold gr_C
    rw [h39]
  unfold gl_c3 gr_rdy at h ⊢
  rw [h20, h21, h26, h27, h36, e]
  exact h
def gl_c4 (K : Int) (G : gm_G) (m : gh_M) : Prop := gk_fo K G (m 26 3) (m 27) m ∧ (0 ≤ m 41 11 → ∃ ci cj, gk_un G (m 26 3) (m 27) ci cj m)
theorem gl_c4_x {K : Int} {G : gm_G} {m m2 : gh_M} (h0 : m2 0 = m 0) (h26 : m2 26 3 = m 26 3) (h27 : m2 27 = m 27) (h41 : m2 41 = m 41) (h42 : m2 42 = m 42) (h118 : m2 118 = m 118) (h119 : m2 119 = m 119) (h : gl_c4 K G m) : gl_c4 K G m2 := by
  unfold gl_c4 gk_fo gk_mem gk_ue gk_un at h ⊢
  rw [h0, h26, h27, h41, h42, h118, h119]
  exact h
def gl_c5 (G : gm_G) (m : gh_M) : Prop := m 58 2 ≠ 0 → gy_res G (m 20 1) (gb (m 20 5)) (gb (m 20 4)) (m 58 3) (gh_pop (m 58 4)) (m 58 5)
theorem gl_c5_x {G : gm_G} {m m2 : gh_M} (h20 : m2 20 = m 20) (h58 : m2 58 = m 58) (h : gl_c5 G m) : gl_c5 G m2 := by
  unfold gl_c5 at h ⊢
  rw [h20, h58]
  exact h
/-- what the model keeps -/
def gl_m1 (G : gm_G) (m : gh_M) : Prop := m 63 52 ≠ 0 → gd_ch G (m 26 3) (m 27) (gb (m 20 5)) (m 82 0 < 1000000000) m
theorem gl_m1_x {G : gm_G} {m m2 : gh_M} (h20 : m2 20 = m 20) (h26 : m2 26 3 = m 26 3) (h27 : m2 27 = m 27) (h82 : m2 82 = m 82) (h52 : m2 63 52 = m 63 52) (h97 : ∀ a, 97 ≤ a → a ≤ 100 → m2 a = m a) (h : gl_m1 G m) : gl_m1 G m2 := by
  unfold gl_m1 gd_ch gd_bg at h ⊢
  rw [h20, h26, h27, h82, h52, h97 97 (by decide) (by decide), h97 98 (by decide) (by decide), h97 99 (by decide) (by decide), h97 100 (by decide) (by decide)]
  exact h
def gl_m2 (G : gm_G) (m : gh_M) : Prop := gk_co G (m 26 3) (m 27) m
theorem gl_m2_x {G : gm_G} {m m2 : gh_M} (h26 : m2 26 3 = m 26 3) (h27 : m2 27 = m 27) (h61 : m2 63 61 = m 63 61) (h64 : m2 63 64 = m 63 64) (h105 : m2 105 = m 105) (h106 : m2 106 = m 106) (h : gl_m2 G m) : gl_m2 G m2 := by
  unfold gl_m2 gk_co gk_ct gk_dn gk_nd at h ⊢
  rw [h26, h27, h61, h64, h105, h106]
  exact h
/-- the tree that was picked -/
def gl_pk (m : gh_M) : Prop := (0 ≤ m 47 4 ∧ m 47 4 ≤ 300) ∧ m 63 68 = m 47 4 ∧ (m 47 4 ≠ 0 → m 63 70 = m 47 5) ∧ ∀ x, 0 ≤ x → x < m 47 4 → m 109 x = m 48 x
theorem gl_pk_x {m m2 : gh_M} (h47 : ∀ y, y = 4 ∨ y = 5 → m2 47 y = m 47 y) (h48 : m2 48 = m 48) (h63 : ∀ y, y = 68 ∨ y = 70 → m2 63 y = m 63 y) (h109 : m2 109 = m 109) (h : gl_pk m) : gl_pk m2 := by
  unfold gl_pk at h ⊢
  rw [h47 4 (Or.inl rfl), h47 5 (Or.inr rfl), h48, h63 68 (Or.inl rfl), h63 70 (Or.inr rfl), h109]
  exact h
/-- all that is known with a grammar -/
def gl_all (K : Int) (G : gm_G) (m : gh_M) : Prop := gl_gr G m ∧ gl_tx m ∧ (gl_c1 G m ∧ gl_c2 G m ∧ gl_c3 G m ∧ gl_c5 G m) ∧ gl_m1 G m ∧ gl_m2 G m ∧ gl_pk m
/-- before a call, b being how many were -/
def gl_I (K b : Int) (m : gh_M) : Prop := gl_tp m ∧ (m 5 1 = m 63 2 ∧ m 5 2 = m 63 3) ∧ (m 2 10 = m 63 24) ∧ (m 41 9 ≤ 1000 * b ∧ m 63 64 ≤ 3200000 * b) ∧ ((∀ x, m 106 x ≤ m 63 64) ∧ 0 ≤ m 63 64) ∧ (gbs 9 (m 36 4) ∧ -1 ≤ m 36 7 ∧ (m 2 10 = 0 → m 26 3 = m 63 50)) ∧ ∃ G, (∃ z t, gk_fo K G z t m) ∧ (m 2 10 ≠ 0 → gl_c4 K G m ∧ gl_all K G m)
/-! FACTS THAT FOLLOW -/
theorem gl_E {G : gm_G} {m : gh_M} (g : gl_gr G m) : ∀ n, 0 ≤ n → n < gm_N G → (m 82 n = 0 ↔ gb (m 20 1) n) := fun n n0 n1 => by
  obtain ⟨hG, _, _, _, _, _, _, f, _, mf⟩ := g
  obtain ⟨⟨e1, e2, e3⟩, ⟨l1, l2, l3⟩, _⟩ := f
  rw [gm_E_L hG e1 e2 e3 l1 l2 l3 n0 n1, mf.1 n n0 n1]
  unfold gm_mv
  by_cases u : m 21 n < 16777216
  · rw [if_pos u]
  · rw [if_neg u]
    omega
theorem gl_s {G : gm_G} {m : gh_M} (g : gl_gr G m) : m 82 0 < 1000000000 ↔ m 21 0 < 16777216 := by
  obtain ⟨hG, _, _, _, _, _, _, f, _, mf⟩ := g
  rw [mf.1 0 (Int.le_refl _) (by have := hG.1; omega)]
  unfold gm_mv
  by_cases u : m 21 0 < 16777216
  · rw [if_pos u]
    omega
  · rw [if_neg u]
    omega
/-- a useful rule's name, from the first on: the first name need not be said to end -/
theorem gl_S {G : gm_G} {m : gh_M} (g : gl_gr G m) {z : Int} {t : Int → Int} {r i : Int} (r0 : 0 ≤ r) (r1 : r < gm_R G) (u : gb (m 20 5) r) : gt_S G z t (gb (m 20 5)) True (gm_o G r) i ↔ gt_S G z t (gb (m 20 5)) (m 82 0 < 1000000000) (gm_o G r) i := by
  have gs := gl_s g
  obtain ⟨hG, _, _, _, _, _, _, f, _, mf⟩ := g
  obtain ⟨⟨e1, e2, e3⟩, ⟨l1, l2, l3⟩, _, ⟨_, hu⟩, _⟩ := f
  have least : ∀ q, 0 ≤ q → q < gm_R G → gb (m 20 5) q → m 21 (gm_o G q) < 16777216 := fun q q0 q1 y => by
    have a := ((hu q q0).mp y).2
    have b := l2 q q0 q1
    omega
  by_cases c : m 82 0 < 1000000000
  · have e : gt_S G z t (gb (m 20 5)) (m 82 0 < 1000000000) = gt_S G z t (gb (m 20 5)) True := by
      rw [eq_true c]
    rw [e]
  · refine ⟨fun h => ?_, fun h => ?_⟩
    · have hz := h (fun n _ => n = 0) ⟨fun _ => rfl, fun q d i' j q0 q1 d0 d1 bq _ _ _ hq _ => by
        have := least q q0 q1 bq
        rw [hq] at this
        omega⟩
      have := least r r0 r1 u
      rw [hz] at this
      omega
    · have hz := h (fun _ _ => False) ⟨fun y => absurd y c, fun _ _ _ _ _ _ _ _ _ _ _ _ hq _ => hq⟩
      exact hz.elim
/-- what is wanted behind letters depends on these alone -/
theorem gl_P_cut {G : gm_G} (hG : gm_ok G) {z z2 k : Int} {t t2 S : Int → Int} {P : Int → Int → Int} (k1 : k ≤ z) (k2 : k ≤ z2) (ht : ∀ p, 0 ≤ p → p < k → t p = t2 p) (h : gw_P G z t S k P) : gw_P G z2 t2 S k P := by
  refine ⟨h.1, fun i i0 ik => ?_⟩
  have hf := h.2 i i0 ik
  have e : gw_F G z2 t2 S k i P = gw_F G z t S k i P := by
    funext r L
    unfold gw_F
    refine gmn_cg (fun w => ?_)
    unfold gw_A gw_a
    have row : ∀ d e, e ≤ k → (gt_row G z2 t2 (gt_M G z2 t2) r d i e ↔ gt_row G z t (gt_M G z t) r d i e) := fun d e ek => (gt_row_cut2 hG k1 k2 ht i0 (by omega) ek).symm
    constructor
    · rintro ⟨c, c0, c1, y⟩
      refine ⟨c, c0, c1, ?_⟩
      rcases y with ⟨e, y1, y2, y3, y4, y5⟩ | ⟨y1, y2⟩
      · exact Or.inl ⟨e, y1, y2, y3, (row c e (by omega)).mp y4, y5⟩
      · exact Or.inr ⟨(row (c + 1) k (Int.le_refl _)).mp y1, y2⟩
    · rintro ⟨c, c0, c1, y⟩
      refine ⟨c, c0, c1, ?_⟩
      rcases y with ⟨e, y1, y2, y3, y4, y5⟩ | ⟨y1, y2⟩
      · exact Or.inl ⟨e, y1, y2, y3, (row c e (by omega)).mpr y4, y5⟩
      · exact Or.inr ⟨(row (c + 1) k (Int.le_refl _)).mpr y1, y2⟩
  unfold gw_fin at hf ⊢
  rw [e]
  exact hf
/-- the first k + 1 bits -/
theorem gl_keep {x k : Int} (hx : gbs 9 x) (k0 : -1 ≤ k) (k8 : k ≤ 8) : gh_i (k + 1) ∧ gh_i (gh_ishl_f 1 (k + 1) - 1) ∧ gbs 9 (gh_iand_f x (gh_ishl_f 1 (k + 1) - 1)) ∧ ∀ i, 0 ≤ i → (gb (gh_iand_f x (gh_ishl_f 1 (k + 1) - 1)) i ↔ gb x i ∧ i ≤ k) := by
  obtain ⟨a1, a2, a3⟩ := gz_mine (a := 0) (b := k + 1) (Int.le_refl _) (by omega) (by omega)
  have e : gh_ishl_f 1 0 = 1 := by decide
  rw [e] at a1 a2 a3
  refine ⟨by omega, by omega, gbs_and (by decide) hx a1, fun i i0 => ?_⟩
  rw [gb_iand (by decide) hx a1, a3 i i0]
  refine and_congr Iff.rfl ?_
  omega
/-- the text changes behind its first c letters -/
theorem gl_changed {K : Int} {G : gm_G} {m : gh_M} {c : Int} {Q : Int → gh_M → Prop} (c0 : -1 ≤ c) (c8 : c ≤ 8) (b4 : gbs 9 (m 36 4)) (H : ∀ m2, gx [30, 36, 41, 47] m m2 → m2 30 3 = 0 → gbs 9 (m2 36 4) → (∀ i, 0 ≤ i → (gb (m2 36 4) i ↔ gb (m 36 4) i ∧ i ≤ c)) → m2 36 7 = min (m 36 7) c → (∀ x, x ≠ 11 → m2 41 x = m 41 x) → m2 41 11 = min (m 41 11) c → m2 47 4 = 0 → Q 0 m2) : w_House_textChanged c m Q := by
  have kp := gl_keep b4 c0 c8
  unfold w_House_textChanged w_Wants_forgetBehind w_Forest_forgetBehind
  have e36 : (gh_u m 30 3 0) 36 = m 36 := gx_one _ _ _ _ 36 (by decide)
  rw [e36]
  refine ⟨kp.1, kp.2.1, ?_⟩
  obtain ⟨m1, hm1⟩ : ∃ m1, m1 = gh_u (gh_u (gh_u m 30 3 0) 36 4 (gh_iand_f (m 36 4) (gh_ishl_f 1 (c + 1) - 1))) 36 7 (min (m 36 7) c) := ⟨_, rfl⟩
  rw [← hm1]
  have x1 : gx [30, 36] m m1 := by
    rw [hm1]
    exact gx_u (gx_u (gx_u gx_rf (by decide)) (by decide)) (by decide)
  have a30 : m1 30 3 = 0 := by
    rw [hm1, gh_u_a (by decide), gh_u_a (by decide), gh_u_s]
  have a36 : m1 36 4 = gh_iand_f (m 36 4) (gh_ishl_f 1 (c + 1) - 1) := by
    rw [hm1, gh_u_i (by decide), gh_u_s]
  have a37 : m1 36 7 = min (m 36 7) c := by
    rw [hm1, gh_u_s]
  clear hm1
  (try dsimp only)
  rw [x1 41 (by decide)]
  refine H _ (gx_u (gx_u (gx_sub x1 (by decide)) (by decide)) (by decide)) (by rw [gh_u_a (by decide), gh_u_a (by decide)]; exact a30) (by rw [gh_u_a (by decide), gh_u_a (by decide), a36]; exact kp.2.2.1) (fun i i0 => by rw [gh_u_a (by decide), gh_u_a (by decide), a36]; exact kp.2.2.2 i i0) (by rw [gh_u_a (by decide), gh_u_a (by decide)]; exact a37) (fun x xn => by rw [gh_u_a (by decide), gh_u_i xn, x1 41 (by decide)]) (by rw [gh_u_a (by decide), gh_u_s]) (gh_u_s _ _ _ _)
