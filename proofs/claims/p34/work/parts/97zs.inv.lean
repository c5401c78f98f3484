/-- what the class keeps -/
def gl_c1 (G : gm_G) (m : gh_M) : Prop := m 30 3 ≠ 0 → gt_ch G m
theorem gl_c1_x {G : gm_G} {m m2 : gh_M} (h20 : m2 20 = m 20) (h26 : m2 26 3 = m 26 3) (h27 : m2 27 = m 27) (h30 : m2 30 3 = m 30 3) (h31 : ∀ a, 31 ≤ a → a ≤ 35 → m2 a = m a) (h : gl_c1 G m) : gl_c1 G m2 := by
  unfold gl_c1 gt_ch gt_full gt_tab at h ⊢
  rw [h20, h26, h27, h30, h31 31 (by decide) (by decide), h31 32 (by decide) (by decide), h31 34 (by decide) (by decide), h31 35 (by decide) (by decide)]
  exact h
def gl_wv (G : gm_G) (S t : Int → Int) (k v : Int) : Prop := ∃ z t' P, k ≤ z ∧ z ≤ 8 ∧ (∀ p, 0 ≤ p → p < k → t' p = t p) ∧ gw_P G z t' S k P ∧ v = if P 0 0 < 16777216 then P 0 0 else -1
def gl_c2 (G : gm_G) (m : gh_M) : Prop := gbs 9 (m 36 4) ∧ ∀ k, 0 ≤ k → gb (m 36 4) k → k ≤ m 26 3 ∧ gl_wv G (m 21) (m 27) k (m 37 k)
theorem gl_c2_x {G : gm_G} {m m2 : gh_M} (h21 : m2 21 = m 21) (h26 : m2 26 3 = m 26 3) (h27 : m2 27 = m 27) (h36 : m2 36 4 = m 36 4) (h37 : m2 37 = m 37) (h : gl_c2 G m) : gl_c2 G m2 := by
  unfold gl_c2 at h ⊢
  rw [h21, h26, h27, h36, h37]
  exact h
def gl_c3 (G : gm_G) (m : gh_M) : Prop := -1 ≤ m 36 7 ∧ m 36 7 ≤ m 26 3 ∧ gr_rdy G m (m 36 7)
theorem gl_c3_x {G : gm_G} {m m2 : gh_M} (h20 : m2 20 = m 20) (h21 : m2 21 = m 21) (h26 : m2 26 3 = m 26 3) (h27 : m2 27 = m 27) (h36 : m2 36 7 = m 36 7) (h39 : m2 39 = m 39) (h : gl_c3 G m) : gl_c3 G m2 := by
  have e : gr_C m2 = gr_C m := by
    funext n i j
    unfold gr_C
    rw [h39]
  unfold gl_c3 gr_rdy at h ⊢
  rw [h20, h21, h26, h27, h36, e]
  exact h
def gl_c4 (K : Int) (G : gm_G) (m : gh_M) : Prop := gk_fo K G (m 26 3) (m 27) m ∧ (0 ≤ m 41 11 → ∃ ci cj, gk_un G (m 26 3) (m 27) ci cj m)
theorem gl_c4_x {K : Int} {G : gm_G} {m m2 : gh_M} (h0 : m2 0 = m 0) (h26 : m2 26 3 = m 26 3) (h27 : m2 27 = m 27) (h41 : m2 41 = m 41) (h42 : m2 42 = m 42) (h118 : m2 66 = m 66) (h119 : m2 67 = m 67) (h : gl_c4 K G m) : gl_c4 K G m2 := by
  unfold gl_c4 gk_fo gk_mem gk_ue gk_un at h ⊢
  rw [h0, h26, h27, h41, h42, h118, h119]
  exact h
/-- what is wanted behind letters depends on these alone -/
theorem gl_P_cut {G : gm_G} (hG : gm_ok G) {z z2 k : Int} {t t2 S : Int → Int} {P : Int → Int → Int} (k1 : k ≤ z) (k2 : k ≤ z2) (ht : ∀ p, 0 ≤ p → p < k → t p = t2 p) (h : gw_P G z t S k P) : gw_P G z2 t2 S k P := by
  refine ⟨h.1, fun i i0 ik => ?_⟩
  have hf := h.2 i i0 ik
  have e : gw_F G z2 t2 S k i P = gw_F G z t S k i P := by
    funext r L
    unfold gw_F
    refine gmn_cg (fun w => ?_)
    unfold gw_A gw_a
    have row : ∀ d e, e ≤ k → (gt_row G z2 t2 (gt_M G z2 t2) r d i e ↔ gt_row G z t (gt_M G z t) r d i e) := fun d e ek => (gt_row_cut2 hG k1 k2 ht i0 (by omega) ek).symm
    constructor
    · rintro ⟨c, c0, c1, y⟩
      refine ⟨c, c0, c1, ?_⟩
      rcases y with ⟨e, y1, y2, y3, y4, y5⟩ | ⟨y1, y2⟩
      · exact Or.inl ⟨e, y1, y2, y3, (row c e (by omega)).mp y4, y5⟩
      · exact Or.inr ⟨(row (c + 1) k (Int.le_refl _)).mp y1, y2⟩
    · rintro ⟨c, c0, c1, y⟩
      refine ⟨c, c0, c1, ?_⟩
      rcases y with ⟨e, y1, y2, y3, y4, y5⟩ | ⟨y1, y2⟩
      · exact Or.inl ⟨e, y1, y2, y3, (row c e (by omega)).mpr y4, y5⟩
      · exact Or.inr ⟨(row (c + 1) k (Int.le_refl _)).mpr y1, y2⟩
  unfold gw_fin at hf ⊢
  rw [e]
  exact hf
/-- the first k + 1 bits -/
theorem gl_keep {x k : Int} (hx : gbs 9 x) (k0 : -1 ≤ k) (k8 : k ≤ 8) : gh_i (k + 1) ∧ gh_i (gh_ishl_f 1 (k + 1) - 1) ∧ gbs 9 (gh_iand_f x (gh_ishl_f 1 (k + 1) - 1)) ∧ ∀ i, 0 ≤ i → (gb (gh_iand_f x (gh_ishl_f 1 (k + 1) - 1)) i ↔ gb x i ∧ i ≤ k) := by
  obtain ⟨a1, a2, a3⟩ := gz_mine (a := 0) (b := k + 1) (Int.le_refl _) (by omega) (by omega)
  have e : gh_ishl_f 1 0 = 1 := by decide
  rw [e] at a1 a2 a3
  refine ⟨by omega, by omega, gbs_and (by decide) hx a1, fun i i0 => ?_⟩
  rw [gb_iand (by decide) hx a1, a3 i i0]
  refine and_congr Iff.rfl ?_
  omega
/-- the text changes behind its first c letters -/
theorem gl_changed {K : Int} {G : gm_G} {m : gh_M} {c : Int} {Q : Int → gh_M → Prop} (c0 : -1 ≤ c) (c8 : c ≤ 8) (b4 : gbs 9 (m 36 4)) (H : ∀ m2, gx [30, 36, 41, 47] m m2 → m2 30 3 = 0 → gbs 9 (m2 36 4) → (∀ i, 0 ≤ i → (gb (m2 36 4) i ↔ gb (m 36 4) i ∧ i ≤ c)) → m2 36 7 = min (m 36 7) c → (∀ x, x ≠ 11 → m2 41 x = m 41 x) → m2 41 11 = min (m 41 11) c → m2 47 4 = 0 → Q 0 m2) : w_House_textChanged c m Q := by
  have kp := gl_keep b4 c0 c8
  unfold w_House_textChanged w_Wants_forgetBehind w_Forest_forgetBehind
  have e36 : (gh_u m 30 3 0) 36 = m 36 := gx_one _ _ _ _ 36 (by decide)
  rw [e36]
  refine ⟨kp.1, kp.2.1, ?_⟩
  obtain ⟨m1, hm1⟩ : ∃ m1, m1 = gh_u (gh_u (gh_u m 30 3 0) 36 4 (gh_iand_f (m 36 4) (gh_ishl_f 1 (c + 1) - 1))) 36 7 (min (m 36 7) c) := ⟨_, rfl⟩
  rw [← hm1]
  have x1 : gx [30, 36] m m1 := by
    rw [hm1]
    exact gx_u (gx_u (gx_u gx_rf (by decide)) (by decide)) (by decide)
  have a30 : m1 30 3 = 0 := by
    rw [hm1, gh_u_a (by decide), gh_u_a (by decide), gh_u_s]
  have a36 : m1 36 4 = gh_iand_f (m 36 4) (gh_ishl_f 1 (c + 1) - 1) := by
    rw [hm1, gh_u_i (by decide), gh_u_s]
  have a37 : m1 36 7 = min (m 36 7) c := by
    rw [hm1, gh_u_s]
  clear hm1
  (try dsimp only)
  rw [x1 41 (by decide)]
  refine H _ (gx_u (gx_u (gx_sub x1 (by decide)) (by decide)) (by decide)) (by rw [gh_u_a (by decide), gh_u_a (by decide)]; exact a30) (by rw [gh_u_a (by decide), gh_u_a (by decide), a36]; exact kp.2.2.1) (fun i i0 => by rw [gh_u_a (by decide), gh_u_a (by decide), a36]; exact kp.2.2.2 i i0) (by rw [gh_u_a (by decide), gh_u_a (by decide)]; exact a37) (fun x xn => by rw [gh_u_a (by decide), gh_u_i xn, x1 41 (by decide)]) (by rw [gh_u_a (by decide), gh_u_s]) (gh_u_s _ _ _ _)

