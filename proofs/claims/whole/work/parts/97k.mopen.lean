/-! PICKING: the model opens the parts of a rule -/
def gp_at (m : gh_M) (x : Int) (nd : gp_nd) : Prop := m 111 x = nd.1 ∧ (¬ nd.1 < 0 → m 112 x = nd.2.1 ∧ m 113 x = nd.2.2.1 ∧ m 114 x = nd.2.2.2.1 ∧ m 115 x = nd.2.2.2.2.1 - 1 ∧ m 116 x = nd.2.2.2.2.2)
theorem gp_at_cg {m m2 : gh_M} {x y : Int} {nd : gp_nd} (h : ∀ a : Int, 111 ≤ a → a ≤ 116 → m2 a y = m a x) (w : gp_at m x nd) : gp_at m2 y nd := by
  unfold gp_at
  rw [h 111 (by decide) (by decide), h 112 (by decide) (by decide), h 113 (by decide) (by decide), h 114 (by decide) (by decide), h 115 (by decide) (by decide), h 116 (by decide) (by decide)]
  exact w
def gp_enc2 (m : gh_M) : List gp_nd → Prop
  | [] => True
  | nd :: L => gp_at m L.length nd ∧ gp_enc2 m L
theorem gp_enc2_cg {m m2 : gh_M} : ∀ L : List gp_nd, (∀ a x : Int, 111 ≤ a → a ≤ 116 → 0 ≤ x → x < L.length → m2 a x = m a x) → gp_enc2 m L → gp_enc2 m2 L
  | [], _, _ => trivial
  | nd :: L, h, ⟨h1, h2⟩ => by
    have l1 : ((nd :: L).length : Int) = L.length + 1 := by
      show ((L.length + 1 : Nat) : Int) = _
      omega
    exact ⟨gp_at_cg (fun a a0 a1 => h a _ a0 a1 (by omega) (by omega)) h1, gp_enc2_cg L (fun a x a0 a1 x0 x1 => h a x a0 a1 x0 (by omega)) h2⟩
theorem gp_enc2_L {G : gm_G} {t : Int → Int} {r i j A lv : Int} {cu sh : Int → Int} {m : gh_M} {L : List gp_nd} (h : ∀ x : Int, 0 ≤ x → x < gm_s G r → gp_at m (L.length + x) (gp_kid G t r i j A lv (gm_s G r - 1 - x) (gp_st i cu (gm_s G r - 1 - x)) (cu (gm_s G r - 1 - x)) (sh (gm_s G r - 1 - x)))) (en : gp_enc2 m L) : ∀ c : Nat, (c : Int) ≤ gm_s G r → gp_enc2 m (gp_L G t r i j A lv cu sh c ++ L) ∧ (gp_L G t r i j A lv cu sh c ++ L).length = c + L.length
  | 0, _ => ⟨en, by
      show L.length = 0 + L.length
      omega⟩
  | c + 1, hc => by
    obtain ⟨h1, h2⟩ := gp_enc2_L h en c (by omega)
    refine ⟨⟨?_, h1⟩, ?_⟩
    · have w := h c (by omega) (by omega)
      have e1 : gm_s G r - 1 - (c : Int) = gm_s G r - ((c : Int) + 1) := by omega
      have e2 : ((gp_L G t r i j A lv cu sh c ++ L).length : Int) = L.length + c := by omega
      show gp_at m ((gp_L G t r i j A lv cu sh c ++ L).length : Int) _
      rw [e2, ← e1]
      exact w
    · show (gp_L G t r i j A lv cu sh c ++ L).length + 1 = _
      omega
/-- the trees of what is still to be told are counted -/
def gp_cn (m : gh_M) : List gp_nd → Prop
  | [] => True
  | (n, i, j, B, _, _) :: L => (¬ n < 0 → 0 ≤ m 105 (gk_nk n i j B)) ∧ gp_cn m L
theorem gp_cn_x {m m2 : gh_M} (e : m2 105 = m 105) : ∀ L : List gp_nd, gp_cn m L → gp_cn m2 L
  | [], _ => trivial
  | (n, i, j, B, _, _) :: L, ⟨h1, h2⟩ => ⟨fun y => by rw [e]; exact h1 y, gp_cn_x e L h2⟩
theorem gp_kids_cn {G : gm_G} {z : Int} {t : Int → Int} {m : gh_M} (hG : gm_ok G) (z8 : z ≤ 8) (ht : ∀ k, 0 ≤ k → k < z → 0 ≤ t k ∧ t k < 26) {r i j A lv : Int} {L : List gp_nd} (r0 : 0 ≤ r) (r1 : r < gm_R G) (i0 : 0 ≤ i) (ij : i ≤ j) (jz : j ≤ z) (hnd : ∀ d p q, 0 ≤ d → d < gm_s G r → gt_row G z t (gt_M G z t) r d i p → p ≤ q → q ≤ j → gk_nd G z t m r d p q i j A) (cnL : gp_cn m L) : ∀ (c : Nat) (p l : Int) (K : List gp_nd), (c : Int) ≤ gm_s G r → i ≤ p → p ≤ j → gt_row G z t (gt_M G z t) r (gm_s G r - c) i p → gp_kids G z t r i j A lv c p l K → gp_cn m (K ++ L)
  | 0, _, _, K, _, _, _, _, h => by
    rw [(h : K = [])]
    exact cnL
  | c + 1, p, l, K, hc, ip, pj, row, h => by
    obtain ⟨q, l2, K2, a1, a2, a3⟩ := h
    have cb : gm_s G r - (c : Int) = (gm_s G r - ((c : Int) + 1)) + 1 := by omega
    rw [cb] at a2 a3
    have d0 : 0 ≤ gm_s G r - ((c : Int) + 1) := by omega
    have d1 : gm_s G r - ((c : Int) + 1) < gm_s G r := by omega
    have row' : gt_row G z t (gt_M G z t) r (gm_s G r - ((c : Int) + 1)) i p := by
      have e : gm_s G r - ((c + 1 : Nat) : Int) = gm_s G r - ((c : Int) + 1) := by omega
      rw [e] at row
      exact row
    obtain ⟨x1, x2, x3, x4, x5, x6⟩ := gp_cut_x hG r0 r1 d0 a1
    have pm := gk_own_pm (fun n i j A => gk_C_M) (by omega : gk_own G z t (gk_C G z t) r i j (gb A) (gm_s G r - ((c : Int) + 1)) p q ≠ 0)
    have row2 : gt_row G z t (gt_M G z t) r (gm_s G r - c) i q := by
      rw [cb, gt_row_s d0]
      exact ⟨p, row', pm⟩
    have pq := a1.1
    have ih := gp_kids_cn hG z8 ht r0 r1 i0 ij jz hnd cnL c q _ K2 (by omega) (by omega) a1.2.1 row2 a3
    generalize hd : gm_s G r - ((c : Int) + 1) = d at *
    rw [a2]
    unfold gp_kid
    by_cases w : gm_n G r d = -1
    · rw [if_pos w]
      refine ⟨fun y => absurd ?_ y, ih⟩
      rcases pm with ⟨_, y1, y2, y3⟩ | ⟨y, _⟩
      · have := ht p (by omega) y2
        omega
      · exact absurd w y
    · rw [if_neg w]
      refine ⟨fun _ => ?_, ih⟩
      have nn := gm_n_rng hG r0 r1 d0 d1
      have mm : gt_M G z t (gm_n G r d) p q := by
        rcases pm with ⟨y, _⟩ | ⟨_, y⟩
        · exact absurd y w
        · exact y
      refine hnd d p q d0 d1 row' pq a1.2.1 w mm (fun y => ?_)
      obtain ⟨y1, y2, y3⟩ := y
      have oC : gk_own G z t (gk_C G z t) r i j (gb A) d p q = gk_C G z t (gm_n G r d) i j (gb A) := by
        unfold gk_own
        rw [if_neg w, if_pos ⟨y1, y2⟩]
      have : gk_C G z t (gm_n G r d) i j (gb A) = 0 := by
        rw [gk_eq hG (by omega) (by omega) ij (by omega)]
        exact gt_if_f (fun v => v.1 y3)
      omega
/-- what lies under a counted name is counted -/
theorem gp_down {G : gm_G} {z : Int} {t : Int → Int} {m : gh_M} (hG : gm_ok G) (z8 : z ≤ 8) (dn : gk_dn G z t m) {n i j B : Int} (n0 : 0 ≤ n) (n1 : n < gm_N G) (i0 : 0 ≤ i) (ij : i ≤ j) (jz : j ≤ z) (hB : gbs 8 B) (nB : ¬ gb B n) (h : 0 ≤ m 105 (gk_nk n i j B)) {r d p q : Int} (r0 : 0 ≤ r) (r1 : r < gm_R G) (ro : gm_o G r = n) (d0 : 0 ≤ d) (d1 : d < gm_s G r) (row : gt_row G z t (gt_M G z t) r d i p) (pq : p ≤ q) (qj : q ≤ j) : gk_nd G z t m r d p q i j (gh_ior_f B (gh_ishl_f 1 n)) := by
  have hN := hG.2.1
  have vk := gk_nk_v hG (z := z) (by omega) z8 n0 n1 i0 ij jz hB nB
  have hB2 : 0 ≤ B ∧ B < 256 := hB
  obtain ⟨e0, e1, e2, e3, e4, e5, e6⟩ := gk_nk_d (n := n) (p := i) (q := j) (B := B) n0 (by omega) i0 ij (by omega) hB2.1 hB2.2
  have w := dn (gk_nk n i j B) vk h r
  rw [e2, e3, e4, e5] at w
  by_cases c : i = j
  · rw [if_pos c, if_pos c] at w
    have rg := gt_row_rng (by omega) (fun n p q y => by have := gt_M_rng hG y; omega) row
    have ep : p = i := by omega
    have eq : q = i := by omega
    have row0 : gt_row G z t (gt_M G z t) r d 0 0 := by
      have st : ∀ c : Nat, gt_rw (gt_pm G z t (gt_M G z t) r) c i i → gt_rw (gt_pm G z t (gt_M G z t) r) c 0 0 := by
        intro c
        induction c with
        | zero => exact fun _ => rfl
        | succ c ih =>
          rintro ⟨p', y1, y2⟩
          have y3 := gt_row_le (by omega) (fun n p q y => by have := gt_M_rng hG y; omega) c p' y1
          have y4 : p' ≤ i := by
            rcases y2 with ⟨_, u, _⟩ | ⟨_, u⟩
            · omega
            · have := gt_M_rng hG u
              omega
          have e : p' = i := by omega
          rw [e] at y1 y2
          refine ⟨0, ih y1, ?_⟩
          rcases y2 with ⟨_, u, _⟩ | ⟨u1, u2⟩
          · omega
          · exact Or.inr ⟨u1, gk_Mpk hG (Int.le_refl _) (by omega) u2⟩
      rw [ep] at row
      exact st d.toNat row
    have w3 := w d 0 0 r0 r1 ro d0 d1 row0 (Int.le_refl _) (Int.le_refl _)
    intro h1 h2 h3
    rw [ep, eq] at h2
    have h4 := w3 h1 (gk_Mpk hG (Int.le_refl _) (by omega) h2) (fun y => h3 ⟨ep, by omega, y.2.2⟩)
    rw [if_pos ⟨rfl, rfl⟩] at h4
    rw [if_pos ⟨ep, by omega⟩, ep, eq]
    unfold gk_nk at h4 ⊢
    rw [if_pos rfl] at h4 ⊢
    exact h4
  · rw [if_neg c, if_neg c] at w
    exact w d p q r0 r1 ro d0 d1 row pq qj
