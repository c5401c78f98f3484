/-! PICKING: what always holds of the nodes that are still to be told -/
def gp_okn (G : gm_G) (z : Int) (t : Int → Int) (O : Int → Int) (W T : Int) (nd : gp_nd) : Prop := (nd.1 < 0 → -26 ≤ nd.1 ∧ T ≤ 243) ∧ (¬ nd.1 < 0 → nd.1 < gm_N G ∧ 0 ≤ nd.2.1 ∧ nd.2.1 ≤ nd.2.2.1 ∧ nd.2.2.1 ≤ z ∧ gbs 8 nd.2.2.2.1 ∧ ¬ gb nd.2.2.2.1 nd.1 ∧ (∀ h, 0 ≤ h → h < gm_N G → gb nd.2.2.2.1 h → gb (O h) nd.1) ∧ (0 ≤ nd.2.2.2.2.1 ∧ nd.2.2.2.2.1 ≤ W) ∧ 0 ≤ nd.2.2.2.2.2 ∧ nd.2.2.2.2.2 < gk_C G z t nd.1 nd.2.1 nd.2.2.1 (gb nd.2.2.2.1) ∧ T + 3 * (gk_rk nd.2.1 nd.2.2.1 (gb nd.2.2.2.1) : Int) ≤ 240)
def gp_ok (G : gm_G) (z : Int) (t : Int → Int) (O : Int → Int) (W : Int) : List gp_nd → Prop
  | [] => True
  | nd :: L => gp_okn G z t O W L.length nd ∧ gp_ok G z t O W L
theorem gp_ok_W {G : gm_G} {z : Int} {t O : Int → Int} {W W2 : Int} (hw : W ≤ W2) : ∀ L : List gp_nd, gp_ok G z t O W L → gp_ok G z t O W2 L
  | [], _ => trivial
  | nd :: L, ⟨h, h2⟩ => ⟨⟨h.1, fun y => by
      obtain ⟨a1, a2, a3, a4, a5, a6, a7, a8, a9⟩ := h.2 y
      exact ⟨a1, a2, a3, a4, a5, a6, a7, ⟨a8.1, by omega⟩, a9⟩⟩, gp_ok_W hw L h2⟩
theorem gp_ok_len {G : gm_G} {z : Int} {t O : Int → Int} {W : Int} : ∀ L : List gp_nd, gp_ok G z t O W L → (L.length : Int) ≤ 244
  | [], _ => by decide
  | nd :: L, ⟨h, h2⟩ => by
    show ((L.length + 1 : Nat) : Int) ≤ 244
    by_cases c : nd.1 < 0
    · have := (h.1 c).2
      omega
    · have := (h.2 c).2.2.2.2.2.2.2.2.2.2
      omega
/-- a cut that there is -/
theorem gp_cut_x {G : gm_G} (hG : gm_ok G) {z : Int} {t : Int → Int} {r i j A d p l q l2 : Int} (r0 : 0 ≤ r) (r1 : r < gm_R G) (d0 : 0 ≤ d) (h : gp_cut G z t r i j A d p l q l2) : 0 < gk_own G z t (gk_C G z t) r i j (gb A) d p q ∧ 0 < gk_R G z t r i j (gb A) (d + 1) q ∧ 0 ≤ l2 / gk_R G z t r i j (gb A) (d + 1) q ∧ l2 / gk_R G z t r i j (gb A) (d + 1) q < gk_own G z t (gk_C G z t) r i j (gb A) d p q ∧ 0 ≤ l2 % gk_R G z t r i j (gb A) (d + 1) q ∧ l2 % gk_R G z t r i j (gb A) (d + 1) q < gk_R G z t r i j (gb A) (d + 1) q := by
  obtain ⟨a1, a2, a3, a4, a5⟩ := h
  have e : p + (q - p) = q := by omega
  unfold gp_H at a5
  rw [e] at a5
  have ob := gk_own_nn (G := G) (z := z) (t := t) (T := gk_C G z t) (fun n i j A => (gk_C_b hG n i j A).1) r i j (gb A) d p q
  have Rb := (gk_R_b hG (z := z) (t := t) (i := i) (j := j) (B := gb A) (d := d + 1) (k := q) r0 r1 (by omega)).1
  have on : gk_own G z t (gk_C G z t) r i j (gb A) d p q ≠ 0 := fun y => by
    rw [y, Int.zero_mul] at a5
    have : min (0 : Int) 1000000000000000000 = 0 := by decide
    omega
  have Rn : gk_R G z t r i j (gb A) (d + 1) q ≠ 0 := fun y => by
    rw [y, Int.mul_zero] at a5
    have : min (0 : Int) 1000000000000000000 = 0 := by decide
    omega
  have Rp : 0 < gk_R G z t r i j (gb A) (d + 1) q := by omega
  exact ⟨by omega, Rp, Int.ediv_nonneg a4 Rb, Int.ediv_lt_of_lt_mul Rp (by omega), Int.emod_nonneg _ Rn, Int.emod_lt_of_pos _ Rp⟩
theorem gp_kids_ok {G : gm_G} {z : Int} {t : Int → Int} {E : Int} {O : Int → Int} (hG : gm_ok G) (fa : gk_fa G E O) (z8 : z ≤ 8) (ht : ∀ k, 0 ≤ k → k < z → 0 ≤ t k ∧ t k < 26) {r n i j B A lv W : Int} {L : List gp_nd} (r0 : 0 ≤ r) (r1 : r < gm_R G) (ro : gm_o G r = n) (n0 : 0 ≤ n) (n1 : n < gm_N G) (i0 : 0 ≤ i) (ij : i ≤ j) (jz : j ≤ z) (hB : gbs 8 B) (nB : ¬ gb B n) (hO : ∀ h, 0 ≤ h → h < gm_N G → gb B h → gb (O h) n) (hA : A = gh_ior_f B (gh_ishl_f 1 n)) (lv0 : 0 ≤ lv) (lvW : lv ≤ W) (rk : (L.length : Int) + 3 * (gk_rk i j (gb B) : Int) ≤ 240) (okL : gp_ok G z t O W L) : ∀ (c : Nat) (p l : Int) (K : List gp_nd), (c : Int) ≤ gm_s G r → i ≤ p → p ≤ j → gt_row G z t (gt_M G z t) r (gm_s G r - c) i p → gp_kids G z t r i j A lv c p l K → gp_ok G z t O W (K ++ L) ∧ (K ++ L).length = c + L.length
  | 0, _, _, K, _, _, _, _, h => by
    rw [(h : K = [])]
    exact ⟨okL, by
      show L.length = 0 + L.length
      omega⟩
  | c + 1, p, l, K, hc, ip, pj, row, h => by
    have hN := hG.2.1
    have s4 := (hG.2.2.2.2.1 r r0 r1).2.2.2.1
    obtain ⟨q, l2, K2, a1, a2, a3⟩ := h
    have cb : gm_s G r - (c : Int) = (gm_s G r - ((c : Int) + 1)) + 1 := by omega
    rw [cb] at a2 a3
    have d0 : 0 ≤ gm_s G r - ((c : Int) + 1) := by omega
    have d1 : gm_s G r - ((c : Int) + 1) < gm_s G r := by omega
    have row' : gt_row G z t (gt_M G z t) r (gm_s G r - ((c : Int) + 1)) i p := by
      have e : gm_s G r - ((c + 1 : Nat) : Int) = gm_s G r - ((c : Int) + 1) := by omega
      rw [e] at row
      exact row
    obtain ⟨x1, x2, x3, x4, x5, x6⟩ := gp_cut_x hG r0 r1 d0 a1
    have pm := gk_own_pm (fun n i j A => gk_C_M) (by omega : gk_own G z t (gk_C G z t) r i j (gb A) (gm_s G r - ((c : Int) + 1)) p q ≠ 0)
    have row2 : gt_row G z t (gt_M G z t) r (gm_s G r - c) i q := by
      rw [cb, gt_row_s d0]
      exact ⟨p, row', pm⟩
    obtain ⟨ih1, ih2⟩ := gp_kids_ok hG fa z8 ht r0 r1 ro n0 n1 i0 ij jz hB nB hO hA lv0 lvW rk okL c q _ K2 (by omega) (by have := a1.1; omega) a1.2.1 row2 a3
    generalize hd : gm_s G r - ((c : Int) + 1) = d at *
    rw [a2]
    refine ⟨⟨?_, ih1⟩, by
      show (K2 ++ L).length + 1 = c + 1 + L.length
      omega⟩
    have len : ((K2 ++ L).length : Int) ≤ 3 + L.length := by omega
    have bA : ∀ x, 0 ≤ x → (gb A x ↔ gb B x ∨ x = n) := fun x x0 => by
      rw [hA, gb_ior (n := 8) (by decide) hB (gbs_one n0 (by omega) (by decide)), gb_ishl1 n0 (by omega) x0]
    have bA' : ∀ x, gb B x → gb A x := fun x y => by
      rw [hA]
      exact (gb_ior (n := 8) (by decide) hB (gbs_one n0 (by omega) (by decide))).mpr (Or.inl y)
    have gA : gbs 8 A := by
      rw [hA]
      exact gbs_or (by decide) hB (gbs_one n0 (by omega) (by decide))
    show gp_okn G z t O W ((K2 ++ L).length : Int) (gp_kid G t r i j A lv d p q (l2 / gk_R G z t r i j (gb A) (d + 1) q))
    unfold gp_kid
    by_cases w : gm_n G r d = -1
    · rw [if_pos w]
      rcases pm with ⟨_, y1, y2, _⟩ | ⟨y, _⟩
      · have := ht p (by omega) y2
        refine ⟨fun _ => ⟨?_, by omega⟩, fun y => absurd ?_ y⟩
        · show -26 ≤ -1 - t p
          omega
        · show -1 - t p < 0
          omega
      · exact absurd w y
    · rw [if_neg w]
      have nn := gm_n_rng hG r0 r1 d0 d1
      refine ⟨fun y => ?_, fun _ => ?_⟩
      · have y2 : gm_n G r d < 0 := y
        omega
      · have mm : gt_M G z t (gm_n G r d) p q := by
          rcases pm with ⟨y, _⟩ | ⟨_, y⟩
          · exact absurd y w
          · exact y
        by_cases u : p = i ∧ q = j
        · have er : gm_er G E r 0 d := by
            intro x y0 y1 yn
            by_cases lt : x < d
            · rw [u.1] at row'
              exact gk_row_i hG fa.1 (by omega) d0 row' y0 lt
            · rw [u.2] at x2
              exact gk_R_j hG fa.1 (by omega : gk_R G z t r i j (gb A) (d + 1) j ≠ 0) (by omega) y1
          have o1 := gk_O1 hG fa r0 r1 d0 d1 w er
          rw [ro] at o1
          have oC : gk_own G z t (gk_C G z t) r i j (gb A) d p q = gk_C G z t (gm_n G r d) i j (gb A) := by
            unfold gk_own
            rw [if_neg w, if_pos u]
          have nA : ¬ gb A (gm_n G r d) := fun y => by
            have : gk_C G z t (gm_n G r d) i j (gb A) = 0 := by
              rw [gk_eq hG (by omega) (by omega) ij (by omega)]
              exact gt_if_f (fun v => v.1 y)
            omega
          have rk2 := gk_rk_up (i := i) (j := j) (A := gb B) (B := gb A) bA' n0 (by omega) nB ((bA n n0).mpr (Or.inr rfl))
          rw [if_pos u]
          refine ⟨by show gm_n G r d < _; omega, by show 0 ≤ p; omega, a1.1, by show q ≤ z; have := a1.2.1; omega, gA, nA, fun h h0 h1 y => ?_, ⟨lv0, lvW⟩, x3, ?_, ?_⟩
          · show gb (O h) (gm_n G r d)
            rcases (bA h h0).mp y with y | y
            · exact gk_O2 fa h0 h1 n0 n1 (by omega) (hO h h0 h1 y) o1
            · rw [y]
              exact o1
          · show _ < gk_C G z t (gm_n G r d) p q (gb A)
            rw [u.1, u.2, ← oC]
            rw [u.1, u.2] at x4
            rw [u.1, u.2]
            exact x4
          · show ((K2 ++ L).length : Int) + 3 * (gk_rk p q (gb A) : Int) ≤ 240
            rw [u.1, u.2]
            omega
        · have oC : gk_own G z t (gk_C G z t) r i j (gb A) d p q = gk_C G z t (gm_n G r d) p q (gb 0) := by
            unfold gk_own
            rw [if_neg w, if_neg u]
            exact (gk_C_nil hG fa.1 (by omega) (by omega)).symm
          have rk2 := gk_rk_in (A := gb B) (B := gb 0) ip a1.1 a1.2.1 u
          rw [if_neg u]
          refine ⟨by show gm_n G r d < _; omega, by show 0 ≤ p; omega, a1.1, by show q ≤ z; have := a1.2.1; omega, gbs_0 8, gb_0 _, fun h h0 h1 y => absurd y (gb_0 h), ⟨lv0, lvW⟩, x3, ?_, ?_⟩
          · show _ < gk_C G z t (gm_n G r d) p q (gb 0)
            rw [← oC]
            exact x4
          · show ((K2 ++ L).length : Int) + 3 * (gk_rk p q (gb 0) : Int) ≤ 240
            omega
def gp_a0 : List gp_nd → Prop
  | [] => True
  | (n, i, j, B, _, _) :: L => (0 ≤ n → i < j → B = 0) ∧ gp_a0 L
def gp_cur (ci cj : Int) : List gp_nd → Prop
  | [] => True
  | (n, i, j, B, _, _) :: L => (0 ≤ n → i < j → gp_a0 L ∧ (B ≠ 0 → i = ci ∧ j = cj)) ∧ gp_cur ci cj L
theorem gp_a0_cur {ci cj : Int} : ∀ L : List gp_nd, gp_a0 L → gp_cur ci cj L
  | [], _ => trivial
  | (n, i, j, B, _, _) :: L, ⟨h1, h2⟩ => ⟨fun a b => ⟨h2, fun y => absurd (h1 a b) y⟩, gp_a0_cur L h2⟩
theorem gp_kids_cur {G : gm_G} {z : Int} {t : Int → Int} {r i j A lv : Int} {L : List gp_nd} (ij : i < j) (hL : gp_a0 L) : ∀ (c : Nat) (p l : Int) (K : List gp_nd), i ≤ p → gp_kids G z t r i j A lv c p l K → gp_cur i j (K ++ L) ∧ (i < p → gp_a0 (K ++ L))
  | 0, _, _, K, _, h => by
    rw [(h : K = [])]
    exact ⟨gp_a0_cur L hL, fun _ => hL⟩
  | c + 1, p, l, K, ip, h => by
    obtain ⟨q, l2, K2, a1, a2, a3⟩ := h
    have pq := a1.1
    obtain ⟨ih1, ih2⟩ := gp_kids_cur ij hL c q _ K2 (by omega) a3
    rw [a2]
    unfold gp_kid
    by_cases w : gm_n G r (gm_s G r - ((c : Int) + 1)) = -1
    · rw [if_pos w]
      refine ⟨⟨fun _ y => absurd (y : (0 : Int) < 0) (by decide), ih1⟩, fun y => ⟨fun _ y => absurd (y : (0 : Int) < 0) (by decide), ih2 (by omega)⟩⟩
    · rw [if_neg w]
      refine ⟨⟨fun _ y => ⟨ih2 (by omega), fun b => ?_⟩, ih1⟩, fun y => ⟨fun _ _ => if_neg (by omega), ih2 (by omega)⟩⟩
      by_cases u : p = i ∧ q = j
      · exact u
      · rw [if_neg u] at b
        exact absurd rfl b
theorem gp_kids_cur2 {G : gm_G} {z : Int} {t : Int → Int} {r i A lv ci cj : Int} {L : List gp_nd} (hL : gp_cur ci cj L) : ∀ (c : Nat) (p l : Int) (K : List gp_nd), i ≤ p → gp_kids G z t r i i A lv c p l K → gp_cur ci cj (K ++ L)
  | 0, _, _, K, _, h => by
    rw [(h : K = [])]
    exact hL
  | c + 1, p, l, K, ip, h => by
    obtain ⟨q, l2, K2, a1, a2, a3⟩ := h
    have pq := a1.1
    have qi := a1.2.1
    have ih := gp_kids_cur2 hL c q _ K2 (by omega) a3
    rw [a2]
    unfold gp_kid
    by_cases w : gm_n G r (gm_s G r - ((c : Int) + 1)) = -1
    · rw [if_pos w]
      exact ⟨fun _ y => absurd (y : (0 : Int) < 0) (by decide), ih⟩
    · rw [if_neg w]
      exact ⟨fun _ y => absurd (y : p < q) (by omega), ih⟩

