/-! CHANGES: the class's answer -/
def gr_rdy (G : gm_G) (m : gh_M) (J : Int) : Prop := ∀ j, 0 ≤ j → j ≤ J → gr_P G (gb (m 20 5)) (m 21) (m 27) (gr_C m) j
theorem gr_rdy_r {G : gm_G} {m : gh_M} (hL : gm_Lr G (m 21)) {J : Int} (h : gr_rdy G m J) {n e k : Int} (n0 : 0 ≤ n) (n1 : n < gm_N G) (e0 : 0 ≤ e) (ek : e ≤ k) (kJ : k ≤ J) : 0 ≤ gr_C m n e k ∧ gr_C m n e k ≤ 16777216 := by
  obtain ⟨h1, h2⟩ := h k (by omega) kJ
  by_cases c : e = k
  · rw [c, h1 n n0 n1]
    exact hL n n0 n1
  · exact (h2 e e0 (by omega)).1 n n0 n1
theorem gr_rdy_cg {G : gm_G} (hG : gm_ok G) {m m2 : gh_M} (hL : gm_Lr G (m 21)) {J K : Int} (J8 : J ≤ 8) (KJ : K ≤ J) (e20 : m2 20 5 = m 20 5) (e21 : m2 21 = m 21) (ht : ∀ l, 0 ≤ l → l < K → m 27 l = m2 27 l) (he : ∀ x, 0 ≤ x → x % 9 ≤ K → m2 39 x = m 39 x) (h : gr_rdy G m J) : gr_rdy G m2 K := by
  intro j j0 j1
  rw [e20, e21]
  refine gr_P_cg hG (t := m 27) (C := gr_C m) j0 (by omega) (fun l l0 l1 => ht l l0 (by omega)) (fun n e k n0 n1 e0 ek kj => ?_) (fun n e k n0 n1 e0 ek kj => ?_) (h j j0 (by omega))
  · have := gr_rdy_r hL h n0 n1 e0 ek (by omega)
    unfold gr_C at this ⊢
    rw [he _ (by omega) (by omega)]
    exact this.1
  · unfold gr_C
    exact (he _ (by omega) (by omega)).symm
theorem gr_changes {m : gh_M} {G : gm_G} {Q : Int → gh_M → Prop} (hG : gm_ok G) (hC : gm_C m G) (ht : gt_t m) (hU : gbs 20 (m 20 5)) (hL : gm_Lr G (m 21)) (hE : gbs 8 (m 20 2)) (j0 : -1 ≤ m 36 7) (j1 : m 36 7 ≤ m 26 3) (hr : gr_rdy G m (m 36 7)) (h1 : ¬ gb (m 20 2) 0 → Q (-1) m) (h2 : gb (m 20 2) 0 → ∀ m1, gx [36, 39, 40] m m1 → (∀ x, x ≠ 7 → m1 36 x = m 36 x) → m1 36 7 = m 26 3 → gr_rdy G m1 (m 26 3) → Q (gr_C m1 0 0 (m 26 3)) m1) : w_Wants_changes m Q := by
  have hN0 := hG.1
  have hN := hG.2.1
  have ht0 := ht.1
  have ht2 := ht.2.1
  obtain ⟨b1, b2⟩ := gb_bit0 hE
  refine ⟨fun c => h1 (fun y => ?_), fun c => ⟨by omega, ?_⟩⟩
  · have := b1 y
    omega
  have en : gb (m 20 2) 0 := Classical.byContradiction (fun y => c (b2 y))
  rintro _ rfl
  refine ⟨fun v m1 => m 36 7 + 1 ≤ v ∧ v ≤ m 26 3 + 1 ∧ gx [36, 39, 40] m m1 ∧ (∀ x, x ≠ 7 → m1 36 x = m 36 x) ∧ m1 36 7 = v - 1 ∧ gr_rdy G m1 (v - 1), fun v _ => (20 - v).toNat, ⟨by omega, by omega, gx_rf, fun _ _ => rfl, by omega, by rw [show m 36 7 + 1 - 1 = m 36 7 by omega]; exact hr⟩, ?_⟩
  rintro v m1 ⟨v0, v1, hx, h36, h7, hr1⟩
  have c1 := gm_C_x hx (by decide) hC
  have f26 : m1 26 = m 26 := hx 26 (by decide)
  have f27 : m1 27 = m 27 := hx 27 (by decide)
  have f20 : m1 20 = m 20 := hx 20 (by decide)
  have f21 : m1 21 = m 21 := hx 21 (by decide)
  have ht1 : gt_t m1 := by
    unfold gt_t
    rw [f26, f27]
    exact ht
  have hL1 : gm_Lr G (m1 21) := by rw [f21]; exact hL
  unfold f_Wants_changes_21
  rw [f26]
  refine ⟨fun c2 => ?_, fun c2 => ⟨ht0, by omega, ?_⟩⟩
  · refine gr_findCosts hG c1 ht1 (by rw [f20]; exact hU) hL1 (j := v) (by omega) (by rw [f26]; exact c2) (fun n e k n0 n1 e0 ek kv => gr_rdy_r hL1 hr1 n0 n1 e0 ek (by omega)) (fun m2 x2 ag p2 => ?_)
    have x02 : gx [36, 39, 40] m (gh_u m2 36 7 v) := gx_u (gx_tr (T := [39, 40]) hx (gx_sub x2 (by decide))) (by decide)
    have e36 : m2 36 = m1 36 := x2 36 (by decide)
    refine ⟨by omega, ⟨by omega, by omega, x02, fun x xn => ?_, ?_, ?_⟩, by (try dsimp only); omega⟩
    · rw [gh_u_i xn, e36]
      exact h36 x xn
    · rw [gh_u_s]
      omega
    · have e39 : (gh_u m2 36 7 v) 39 = m2 39 := gm_u_row2 (by decide)
      have e20 : (gh_u m2 36 7 v) 20 = m1 20 := (gm_u_row2 (by decide)).trans (x2 20 (by decide))
      have e21 : (gh_u m2 36 7 v) 21 = m1 21 := (gm_u_row2 (by decide)).trans (x2 21 (by decide))
      have e27 : (gh_u m2 36 7 v) 27 = m1 27 := (gm_u_row2 (by decide)).trans (x2 27 (by decide))
      have eC : gr_C (gh_u m2 36 7 v) = gr_C m2 := by
        funext n i j
        unfold gr_C
        rw [e39]
      intro j j0' j1'
      by_cases q : j = v
      · rw [q, e20, e21, e27, eC]
        exact p2
      · have := gr_rdy_cg hG (m := m1) (m2 := gh_u m2 36 7 v) hL1 (J := v - 1) (K := v - 1) (by omega) (Int.le_refl _) (by rw [e20]) e21 (fun l _ _ => by rw [e27]) (fun x x0 xv => by rw [e39]; exact ag x (by omega)) hr1
        exact this j j0' (by omega)
  · have ev : v = m 26 3 + 1 := by omega
    have := h2 en m1 hx h36 (by omega) (by rw [show m 26 3 = v - 1 by omega]; exact hr1)
    unfold gr_C at this
    rw [show ((0 : Int) * 9 + 0) * 9 + m 26 3 = m 26 3 by omega] at this
    exact this

