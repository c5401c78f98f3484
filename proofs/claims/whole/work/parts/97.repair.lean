/-! CHANGES: the model's loop, and that both sides agree -/
theorem gs_repair {m : gh_M} {G : gm_G} {z : Int} {t : Int → Int} {Z : Int → Int → Int → Int} {Y : Int → Int → Int → Int → Int} {Q : Int → gh_M → Prop} (hG : gm_ok G) (hD : gm_D m G) (ht : gd_t m z t) (h24 : m 63 24 ≠ 0) (hYZ : gs_YZ G z t Z Y) (zb : ∀ n i j, Z n i j ≤ 1000000000) (yb : ∀ r d i j, Y r d i j ≤ 1000000000) (y0 : ∀ r i j, 0 ≤ r → r < gm_R G → 0 ≤ i → i ≤ j → j ≤ z → Y r 0 i j ≤ j - i) (h : ∀ m1, gx [102, 103] m m1 → gs_snd G z Z Y m1 → (∀ r, 0 ≤ r → r < gm_R G → (∀ d i p j, 0 ≤ d → d < gm_s G r → 0 ≤ i → i ≤ p → p ≤ j → j ≤ z → gs_cl G t r d i p j m1) ∧ ∀ k, 0 ≤ k → k < 81 → m1 102 (81 * gm_o G r + k) ≤ m1 103 (405 * r + 81 * gm_s G r + k)) → Q (if m1 102 z < 1000000000 then m1 102 z else -1) m1) : w_Model_repair m Q := by
  have hN0 := hG.1
  have hN := hG.2.1
  have hR0 := hG.2.2.1
  have hR := hG.2.2.2.1
  have z0 := ht.2.1
  have z8 := ht.2.2.1
  have ez := ht.1
  refine ⟨fun c => absurd c h24, fun _ => ?_⟩
  refine ⟨fun k m1 => 0 ≤ k ∧ k ≤ 648 ∧ gx [102, 103] m m1 ∧ ∀ x, 0 ≤ x → x < k → m1 102 x = 1000000000, fun k _ => (1000 - k).toNat, ⟨by omega, by omega, gx_rf, fun x a b => by omega⟩, ?_⟩
  rintro k m1 ⟨k0, k1, hx, hk⟩
  unfold f_Model_repair_13
  refine ⟨fun c2 => ⟨by omega, by omega, by omega, ⟨by omega, by omega, gx_u hx (by decide), fun x x0 x1 => ?_⟩, by (try dsimp only); omega⟩, fun c2 => ?_⟩
  · by_cases e : x = k
    · rw [e, gh_u_s]
    · rw [gh_u_i e]
      exact hk x x0 (by omega)
  refine ⟨fun k m2 => 0 ≤ k ∧ k ≤ 8100 ∧ gx [102, 103] m m2 ∧ m2 102 = m1 102 ∧ ∀ x, 0 ≤ x → x < k → m2 103 x = if x % 405 < 81 then (if x % 81 / 9 ≤ x % 9 then (if x % 9 ≤ z then x % 9 - x % 81 / 9 else 1000000000) else 1000000000) else 1000000000, fun k _ => (9000 - k).toNat, ⟨by omega, by omega, hx, rfl, fun x a b => by omega⟩, ?_⟩
  rintro l m2 ⟨l0, l1, hx2, h97, hl2⟩
  have d63 : m2 63 = m 63 := hx2 63 (by decide)
  unfold f_Model_repair_37
  rw [d63, ez]
  refine ⟨fun c3 => ⟨by omega, by omega, ?_⟩, fun c3 => ?_⟩
  · rintro _ rfl
    refine ⟨by omega, ?_⟩
    rintro _ rfl
    refine ⟨by omega, fun _ _ _ => by omega, by omega, by omega, by omega, ⟨by omega, by omega, gx_u hx2 (by decide), ?_, fun x x0 x1 => ?_⟩, by (try dsimp only); omega⟩
    · rw [gm_u_row2 (by decide)]
      exact h97
    · by_cases e : x = l
      · rw [e, gh_u_s]
      · rw [gh_u_i e]
        exact hl2 x x0 (by omega)
  have z102 : ∀ x, 0 ≤ x → x < 648 → m2 102 x = 1000000000 := fun x a b => by rw [h97]; exact hk x a (by omega)
  have z103 : ∀ x, 0 ≤ x → x < 8100 → m2 103 x = if x % 405 < 81 then (if x % 81 / 9 ≤ x % 9 then (if x % 9 ≤ z then x % 9 - x % 81 / 9 else 1000000000) else 1000000000) else 1000000000 := fun x a b => hl2 x a (by omega)
  have at0 : ∀ r d i j, 0 ≤ r → r < 20 → 0 ≤ d → d ≤ 4 → 0 ≤ i → i ≤ j → j ≤ z → m2 103 (405 * r + 81 * d + 9 * i + j) = if d = 0 then j - i else 1000000000 := by
    intro r d i j a b c dd e f g
    obtain ⟨ix1, ix2, ix3⟩ := gd_ix (r := r) (d := d) (i := i) (j := j) c dd e (by omega) (by omega) (by omega)
    rw [z103 _ (by omega) (by omega), ix1, ix2, ix3]
    by_cases q : d = 0
    · rw [if_pos q, if_pos (by omega), if_pos f, if_pos g]
    · rw [if_neg q, if_neg (by omega)]
  have snd0 : gs_snd G z Z Y m2 := by
    refine ⟨fun x a b => by rw [z102 x a b]; decide, fun x a b => ?_, fun n i j a b c d e => ?_, fun r d i j a b c d' e f g => ?_, fun r i j a b c d e => ?_⟩
    · rw [z103 x a b]
      split
      · split
        · split <;> omega
        · decide
      · decide
    · rw [z102 _ (by omega) (by omega)]
      exact zb n i j
    · have s4 := (hG.2.2.2.2.1 r a b).2.2.2.1
      rw [at0 r d i j a (by omega) c (by omega) e f g]
      by_cases q : d = 0
      · rw [if_pos q, q]
        exact y0 r i j a b e f g
      · rw [if_neg q]
        exact yb r d i j
    · rw [at0 r 0 i j a (by omega) (by decide) (by decide) c d e, if_pos rfl]
      exact Int.le_refl _
  refine ⟨fun v m3 => (v = 0 ∨ v = 1) ∧ gx [102, 103] m m3 ∧ gs_snd G z Z Y m3 ∧ (v = 0 → ∀ r, 0 ≤ r → r < gm_R G → (∀ d i p j, 0 ≤ d → d < gm_s G r → 0 ≤ i → i ≤ p → p ≤ j → j ≤ z → gs_cl G t r d i p j m3) ∧ ∀ k, 0 ≤ k → k < 81 → m3 102 (81 * gm_o G r + k) ≤ m3 103 (405 * r + 81 * gm_s G r + k)), fun v m3 => 2 * gs_cn m3 + v.toNat, ⟨Or.inr rfl, hx2, snd0, fun e => absurd e (by decide)⟩, ?_⟩
  rintro v m3 ⟨v01, hx3, s3, cl⟩
  have dd : ∀ m4, gx [102, 103] m m4 → m4 63 = m 63 ∧ gm_D m4 G ∧ gd_t m4 z t := fun m4 x4 => by
    refine ⟨x4 63 (by decide), gm_D_x x4 (by decide) hD, ?_⟩
    unfold gd_t
    rw [x4 63 (by decide), x4 96 (by decide)]
    exact ht
  unfold f_Model_repair_103
  rw [(dd m3 hx3).1, ez]
  refine ⟨fun e => ⟨by omega, by omega, fun _ => by omega, h m3 hx3 s3 (cl e)⟩, fun e => ?_⟩
  have v1 : v = 1 := v01.resolve_left e
  subst v1
  refine ⟨fun v r m4 => 0 ≤ r ∧ r ≤ gm_R G ∧ (v = 0 ∨ v = 1) ∧ gx [102, 103] m m4 ∧ gs_snd G z Z Y m4 ∧ gs_cn m4 ≤ gs_cn m3 ∧ (v = 1 → gs_cn m4 < gs_cn m3) ∧ (v = 0 → m4 102 = m3 102 ∧ m4 103 = m3 103 ∧ ∀ q, 0 ≤ q → q < r → (∀ d i p j, 0 ≤ d → d < gm_s G q → 0 ≤ i → i ≤ p → p ≤ j → j ≤ z → gs_cl G t q d i p j m3) ∧ ∀ k, 0 ≤ k → k < 81 → m3 102 (81 * gm_o G q + k) ≤ m3 103 (405 * q + 81 * gm_s G q + k)), fun _ r _ => (30 - r).toNat, ⟨by omega, hR0, Or.inl rfl, hx3, s3, Nat.le_refl _, fun e => absurd e (by decide), fun _ => ⟨rfl, rfl, fun q a b => by omega⟩⟩, ?_⟩
  rintro v4 r m4 ⟨r0, r1, w01, hx4, s4, le4, lt4, cl4⟩
  obtain ⟨y63, hD4, ht4⟩ := dd m4 hx4
  unfold f_Model_repair_111
  rw [y63, hD.2.1]
  refine ⟨fun c5 => gs_betters hG hD4 ht4 hYZ s4 r0 c5 (fun v5 m5 st5 fin5 => ?_), fun c5 => ⟨⟨w01, hx4, s4, fun e0 => ?_⟩, ?_⟩⟩
  · rintro _ rfl
    obtain ⟨a1, a2, a3, a4, a5, a6⟩ := st5
    refine ⟨by omega, ⟨by omega, by omega, gh_ib01, gx_tr (S := [102, 103]) (T := [102, 103]) hx4 a1, a2, by omega, fun e1 => ?_, fun e1 => ?_⟩, by (try dsimp only); omega⟩
    · rcases a3 with e5 | e5
      · rcases w01 with e6 | e6
        · rw [if_neg (fun y => y.elim (fun u => u e5) (fun u => u e6))] at e1
          exact absurd e1 (by decide)
        · have := lt4 e6
          omega
      · have := a6 e5
        omega
    · have e5 : v5 = 0 := Classical.byContradiction (fun y => by
        rw [if_pos (Or.inl y)] at e1
        exact absurd e1 (by decide))
      have e6 : v4 = 0 := Classical.byContradiction (fun y => by
        rw [if_pos (Or.inr y)] at e1
        exact absurd e1 (by decide))
      obtain ⟨b1, b2, b3⟩ := a4 e5
      obtain ⟨d1, d2, d3⟩ := cl4 e6
      have same : ∀ q d i p j, gs_cl G t q d i p j m4 → gs_cl G t q d i p j m3 := by
        intro q d i p j w
        unfold gs_cl gs_K at w ⊢
        rw [d1, d2] at w
        exact w
      refine ⟨b1.trans d1, b2.trans d2, fun q q0 q1 => ?_⟩
      by_cases qr : q = r
      · rw [qr]
        refine ⟨fun d i p j x0 x1 x2 x3 x4 x5 => same r d i p j (b3 d i p j trivial x0 x1 x2 x3 x4 x5), fun k x0 x1 => ?_⟩
        have := fin5 e5 k x0 x1
        rw [d1, d2] at this
        exact this
      · exact d3 q q0 (by omega)
  · obtain ⟨d1, d2, d3⟩ := cl4 e0
    intro q q0 q1
    obtain ⟨f1, f2⟩ := d3 q q0 (by omega)
    refine ⟨fun d i p j x0 x1 x2 x3 x4 x5 => ?_, fun k x0 x1 => ?_⟩
    · have := f1 d i p j x0 x1 x2 x3 x4 x5
      unfold gs_cl gs_K at this ⊢
      rw [d1, d2]
      exact this
    · rw [d1, d2]
      exact f2 k x0 x1
  · show 2 * gs_cn m4 + v4.toNat < 2 * gs_cn m3 + (1 : Int).toNat
    rcases w01 with y | y
    · rw [y]
      show 2 * gs_cn m4 + 0 < 2 * gs_cn m3 + 1
      omega
    · have := lt4 y
      rw [y]
      omega
theorem gsum_ge {f : Int → Int} : ∀ n : Nat, (∀ d : Int, 0 ≤ d → d < n → 0 ≤ f d) → ∀ d : Int, 0 ≤ d → d < n → f d ≤ gsum f n
  | 0, _, d, a, b => by omega
  | n + 1, h, d, a, b => by
    have h1 := gsum_nn (f := f) n (fun i i0 i1 => h i i0 (by omega))
    have h2 := h n (by omega) (by omega)
    show f d ≤ gsum f n + f n
    by_cases e : d = n
    · rw [e]
      omega
    · have := gsum_ge n (fun i i0 i1 => h i i0 (by omega)) d a (by omega)
      omega
/-- the numbers Z and Y that no table goes below -/
noncomputable def gs_Z (C : Int → Int → Int → Int) (n i j : Int) : Int := min (gm_mv (C n i j)) 1000000000
noncomputable def gs_Y (G : gm_G) (t : Int → Int) (C : Int → Int → Int → Int) (r d i k : Int) : Int := gmn (fun w => ∃ e u, i ≤ e ∧ e ≤ k ∧ gr_A G t (gs_Z C) r e d k u ∧ w = (e - i) + u) 1000000000
theorem gs_eq {m : gh_M} {G : gm_G} {U : Int → Prop} {S : Int → Int} {z : Int} {t : Int → Int} {C : Int → Int → Int → Int} {Q : Int → gh_M → Prop} (hG : gm_ok G) (hD : gm_D m G) (ht : gd_t m z t) (h24 : m 63 24 ≠ 0) (s1 : gm_Lr G S) (s2 : gm_Lcl G S) (s3 : gm_Lso G S) (hU : ∀ r, 0 ≤ r → r < gm_R G → (U r ↔ gm_lr G S r 0 < 16777216)) (hp : ∀ j, 0 ≤ j → j ≤ z → gr_P G U S t C j) (hb : gr_b G z 16777216 C) (h : ∀ m1, gx [102, 103] m m1 → Q (if C 0 0 z < 16777216 then C 0 0 z else -1) m1) : w_Model_repair m Q := by
  have hN0 := hG.1
  have z0 := ht.2.1
  have z8 := ht.2.2.1
  have hu := gr_U_C hG s1 s2 s3 hU hp hb
  -- letters more in front
  have ab : ∀ (w : Nat) (n i e j : Int), 0 ≤ n → n < gm_N G → 0 ≤ i → i + w = e → e ≤ j → j ≤ z → C n i j ≤ w + C n e j := by
    intro w
    induction w with
    | zero =>
      intro n i e j n0 n1 i0 ie ej jz
      have e2 : i = e := by omega
      rw [e2]
      omega
    | succ w ih =>
      intro n i e j n0 n1 i0 ie ej jz
      have h1 := ih n (i + 1) e j n0 n1 (by omega) (by omega) ej jz
      have h2 := gr_ab hG s3 hp hb hu n0 n1 (p := i + 1) (q := j) (by omega) (by omega) jz
      have e2 : i + 1 - 1 = i := by omega
      rw [e2] at h2
      omega
  -- finite numbers are small
  have sm : ∀ n i j, 0 ≤ n → n < gm_N G → 0 ≤ i → i ≤ j → j ≤ z → S n < 16777216 → C n i j ≤ 65544 := by
    intro n i j n0 n1 i0 ij jz sn
    have h1 := ab (j - i).toNat n i j j n0 n1 i0 (by omega) (Int.le_refl _) jz
    have h2 := (hp j (by omega) jz).1 n n0 n1
    have h3 := gm_L_bd hG s1 s2 s3 n0 n1 sn
    omega
  have fr : ∀ n i j, 0 ≤ n → n < gm_N G → 0 ≤ i → i ≤ j → j ≤ z → C n i j < 16777216 → S n < 16777216 := by
    intro n i j n0 n1 i0 ij jz c
    have r1 := (s1 n n0 n1).2
    refine Classical.byContradiction (fun y => ?_)
    have := gr_far hG s1 s2 hU (hp j (by omega) jz) i0 ij n0 n1 (by omega)
    omega
  have mvb : ∀ n i j, 0 ≤ n → n < gm_N G → 0 ≤ i → i ≤ j → j ≤ z → 0 ≤ gs_Z C n i j ∧ gs_Z C n i j ≤ 1000000000 ∧ (C n i j < 16777216 → gs_Z C n i j = C n i j) ∧ (¬ C n i j < 16777216 → gs_Z C n i j = 1000000000) := by
    intro n i j n0 n1 i0 ij jz
    have b := hb n i j n0 n1 i0 ij jz
    unfold gs_Z gm_mv
    split <;> omega
  have Ynn : ∀ r e d k u, 0 ≤ r → r < gm_R G → 0 ≤ e → 0 ≤ d → d ≤ gm_s G r → k ≤ z → gr_A G t (gs_Z C) r e d k u → 0 ≤ u := by
    rintro r e d k u r0 r1 e0 d0 d1 kz ⟨c, hc, rfl⟩
    refine gr_sm_0 hG r0 r1 _ (by omega) (fun x x0 x1 n n0 n1 => ?_)
    have y1 := gr_In_rng d0 hc (d := x) x0 (by omega)
    have y2 := gr_In_rng d0 hc (d := x + 1) (by omega) (by omega)
    exact (mvb n _ _ n0 n1 (by omega) (hc.2.2 x x0 (by omega)) (by omega)).1
  refine gs_repair (Z := gs_Z C) (Y := gs_Y G t C) hG hD ht h24 ?_ (fun n i j => Int.min_le_right _ _) (fun r d i j => (gmn_sp (by decide)).2.1) (fun r i j r0 r1 i0 ij jz => ?_) (fun m1 hx sn cl => ?_)
  · intro r r0 r1
    obtain ⟨p1, p2, p3, p4, p5⟩ := hG.2.2.2.2.1 r r0 r1
    refine ⟨fun d i p j d0 d1 i0 ip pj jz => ?_, fun i j i0 ij jz => ?_⟩
    · obtain ⟨a1, a2, a3, a4⟩ := gmn_sp (A := fun w => ∃ e u, i ≤ e ∧ e ≤ p ∧ gr_A G t (gs_Z C) r e d p u ∧ w = (e - i) + u) (K := 1000000000) (by decide)
      obtain ⟨b1, b2, b3, b4⟩ := gmn_sp (A := fun w => ∃ e u, i ≤ e ∧ e ≤ j ∧ gr_A G t (gs_Z C) r e (d + 1) j u ∧ w = (e - i) + u) (K := 1000000000) (by decide)
      have pc0 : 0 ≤ gr_pc G t (gs_Z C) r d p j := gr_pc_0 hG r0 r1 d0 d1 (fun n n0 n1 => (mvb n p j n0 n1 (by omega) pj jz).1)
      unfold gs_Y
      rcases a3 with a3 | ⟨e, u, x1, x2, x3, x4⟩
      · omega
      · have u0 := Ynn r e d p u r0 r1 (by omega) d0 (by omega) (by omega) x3
        have := b4 ((e - i) + (u + gr_pc G t (gs_Z C) r d p j)) (by omega) ⟨e, u + gr_pc G t (gs_Z C) r d p j, x1, by omega, (gr_A_s d0).mpr ⟨p, u, pj, x3, rfl⟩, rfl⟩
        omega
    · obtain ⟨b1, b2, b3, b4⟩ := gmn_sp (A := fun w => ∃ e u, i ≤ e ∧ e ≤ j ∧ gr_A G t (gs_Z C) r e (gm_s G r) j u ∧ w = (e - i) + u) (K := 1000000000) (by decide)
      have zo := mvb (gm_o G r) i j p1 p2 i0 ij jz
      unfold gs_Y
      rcases b3 with b3 | ⟨e, u, x1, x2, x3, x4⟩
      · omega
      · rw [x4]
        have u0 := Ynn r e _ j u r0 r1 (by omega) p3 (Int.le_refl _) jz x3
        have ie := ab (e - i).toNat (gm_o G r) i e j p1 p2 i0 (by omega) x2 jz
        have boj := hb (gm_o G r) e j p1 p2 (by omega) x2 jz
        by_cases sz : gm_s G r = 0
        · rw [sz] at x3
          have := gr_A_0.mp x3
          have := (hu r i j r0 r1 i0 ij jz).1 sz
          omega
        · obtain ⟨c, hc, hw⟩ := x3
          have uc := (hu r e j r0 r1 (by omega) x2 jz).2 c sz hc
          -- either a part takes more than all, or all are small
          have pcs : ∀ d : Int, 0 ≤ d → d < (gm_s G r).toNat → 0 ≤ gr_pc G t (gs_Z C) r d (c d) (c (d + 1)) ∧ (1000000000 ≤ gr_pc G t (gs_Z C) r d (c d) (c (d + 1)) ∨ (gr_pc G t (gs_Z C) r d (c d) (c (d + 1)) = gr_pc G t C r d (c d) (c (d + 1)) ∧ gr_pc G t C r d (c d) (c (d + 1)) ≤ 65544)) := by
            intro d d0 d1
            have y1 := gr_In_rng p3 hc (d := d) d0 (by omega)
            have y2 := gr_In_rng p3 hc (d := d + 1) (by omega) (by omega)
            have y3 := hc.2.2 d d0 (by omega)
            have nn := gm_n_rng hG r0 r1 (d := d) d0 (by omega)
            unfold gr_pc
            by_cases q : gm_n G r d = -1
            · have f01 := gt_ib_01 (P := gr_ft G t r d (c d) (c (d + 1)))
              rw [if_pos q, if_pos q]
              refine ⟨by omega, Or.inr ⟨rfl, by omega⟩⟩
            · rw [if_neg q, if_neg q]
              have mm := mvb (gm_n G r d) (c d) (c (d + 1)) (by omega) (by omega) (by omega) y3 (by omega)
              refine ⟨mm.1, ?_⟩
              by_cases q2 : C (gm_n G r d) (c d) (c (d + 1)) < 16777216
              · exact Or.inr ⟨mm.2.2.1 q2, sm _ _ _ (by omega) (by omega) (by omega) y3 (by omega) (fr _ _ _ (by omega) (by omega) (by omega) y3 (by omega) q2)⟩
              · exact Or.inl (by rw [mm.2.2.2 q2]; exact Int.le_refl _)
          by_cases q : ∃ d : Int, 0 ≤ d ∧ d < (gm_s G r).toNat ∧ 1000000000 ≤ gr_pc G t (gs_Z C) r d (c d) (c (d + 1))
          · obtain ⟨d, d0, d1, q⟩ := q
            have := gsum_ge (f := fun d => gr_pc G t (gs_Z C) r d (c d) (c (d + 1))) (gm_s G r).toNat (fun d d0 d1 => (pcs d d0 d1).1) d d0 d1
            have e2 : gr_sm G t (gs_Z C) r c (gm_s G r).toNat = gsum (fun d => gr_pc G t (gs_Z C) r d (c d) (c (d + 1))) (gm_s G r).toNat := rfl
            rw [← e2, ← hw] at this
            (try dsimp only at this)
            omega
          · have fin : ∀ d : Int, 0 ≤ d → d < (gm_s G r).toNat → gr_pc G t (gs_Z C) r d (c d) (c (d + 1)) = gr_pc G t C r d (c d) (c (d + 1)) ∧ gr_pc G t C r d (c d) (c (d + 1)) ≤ 65544 := fun d d0 d1 => (pcs d d0 d1).2.resolve_left (fun y => q ⟨d, d0, d1, y⟩)
            have e2 : gr_sm G t (gs_Z C) r c (gm_s G r).toNat = gr_sm G t C r c (gm_s G r).toNat := gsum_cg _ (fun d d0 d1 => (fin d d0 d1).1)
            have e3 : gr_sm G t C r c (gm_s G r).toNat ≤ (gm_s G r).toNat * 65544 := gsum_le _ (fun d d0 d1 => (fin d d0 d1).2)
            rw [e2] at hw
            have e4 : ((gm_s G r).toNat : Int) * 65544 ≤ 4 * 65544 := by omega
            have small : C (gm_o G r) e j < 16777216 := by omega
            have so := fr _ _ _ p1 p2 (by omega) x2 jz small
            have si := sm _ i j p1 p2 i0 ij jz so
            have := zo.2.2.1 (by omega)
            omega
  · have ws : gr_A G t (gs_Z C) r j 0 j 0 := gr_A_0.mpr ⟨rfl, rfl⟩
    exact (gmn_sp (A := fun w => ∃ e u, i ≤ e ∧ e ≤ j ∧ gr_A G t (gs_Z C) r e 0 j u ∧ w = (e - i) + u) (K := 1000000000) (by decide)).2.2.2 (j - i) (by omega) ⟨j, 0, ij, Int.le_refl _, ws, by omega⟩
  · have kb : ∀ n i j, 0 ≤ n → n < gm_N G → 0 ≤ i → i ≤ j → j ≤ z → 0 ≤ gs_K m1 n i j := fun n i j n0 n1 i0 ij jz => (sn.1 _ (by have := hG.2.1; omega) (by have := hG.2.1; omega)).1
    have up := gr_U_le hG s3 hp (Z := fun n i j => min (gs_K m1 n i j) 16777216) (fun n i j n0 n1 i0 ij jz => by
      have := kb n i j n0 n1 i0 ij jz
      (try dsimp only)
      omega) (fun r i j r0 r1 i0 ij jz => by
      obtain ⟨p1, p2, p3, p4, p5⟩ := hG.2.2.2.2.1 r r0 r1
      have row := (cl r r0 r1).2 (9 * i + j) (by omega) (by omega)
      rw [← Int.add_assoc, ← Int.add_assoc] at row
      have row2 : gs_K m1 (gm_o G r) i j ≤ m1 103 (405 * r + 81 * gm_s G r + 9 * i + j) := row
      refine ⟨fun sz => ?_, fun c sz hc => ?_⟩
      · have b := sn.2.2.2.2 r i j r0 r1 i0 ij jz
        rw [sz] at row2
        (try dsimp only)
        omega
      · have st : ∀ n : Nat, (n : Int) ≤ gm_s G r → m1 103 (405 * r + 81 * n + 9 * i + c n) ≤ gr_sm G t (gs_K m1) r c n := by
          intro n
          induction n with
          | zero =>
            intro _
            have b := sn.2.2.2.2 r i i r0 r1 i0 (Int.le_refl _) (by omega)
            have e0 : ((0 : Nat) : Int) = 0 := rfl
            rw [e0, hc.1]
            show m1 103 (405 * r + 81 * 0 + 9 * i + i) ≤ 0
            omega
          | succ n ih =>
            intro hn
            have h1 := ih (by omega)
            have y1 := gr_In_rng p3 hc (d := n) (by omega) (by omega)
            have y2 := gr_In_rng p3 hc (d := (n : Int) + 1) (by omega) (by omega)
            have h2 := (cl r r0 r1).1 n i (c n) (c ((n : Int) + 1)) (by omega) (by omega) i0 y1.1 (hc.2.2 n (by omega) (by omega)) (by omega)
            unfold gs_cl at h2
            show m1 103 (405 * r + 81 * ((n + 1 : Nat) : Int) + 9 * i + c ((n + 1 : Nat) : Int)) ≤ gr_sm G t (gs_K m1) r c n + gr_pc G t (gs_K m1) r n (c n) (c ((n : Int) + 1))
            have e : ((n + 1 : Nat) : Int) = (n : Int) + 1 := by omega
            rw [e]
            omega
        have h3 := st (gm_s G r).toNat (by omega)
        have e : (((gm_s G r).toNat : Nat) : Int) = gm_s G r := by omega
        rw [e, hc.2.1] at h3
        have pcs : ∀ d : Int, 0 ≤ d → d < (gm_s G r).toNat → 0 ≤ gr_pc G t (fun n i j => min (gs_K m1 n i j) 16777216) r d (c d) (c (d + 1)) ∧ (16777216 ≤ gr_pc G t (fun n i j => min (gs_K m1 n i j) 16777216) r d (c d) (c (d + 1)) ∨ gr_pc G t (fun n i j => min (gs_K m1 n i j) 16777216) r d (c d) (c (d + 1)) = gr_pc G t (gs_K m1) r d (c d) (c (d + 1))) := by
          intro d d0 d1
          have y1 := gr_In_rng p3 hc (d := d) d0 (by omega)
          have y2 := gr_In_rng p3 hc (d := d + 1) (by omega) (by omega)
          have y3 := hc.2.2 d d0 (by omega)
          have nn := gm_n_rng hG r0 r1 (d := d) d0 (by omega)
          unfold gr_pc
          by_cases q : gm_n G r d = -1
          · have f01 := gt_ib_01 (P := gr_ft G t r d (c d) (c (d + 1)))
            rw [if_pos q, if_pos q]
            exact ⟨by omega, Or.inr rfl⟩
          · rw [if_neg q, if_neg q]
            have := kb (gm_n G r d) (c d) (c (d + 1)) (by omega) (by omega) (by omega) y3 (by omega)
            (try dsimp only)
            omega
        by_cases q : ∃ d : Int, 0 ≤ d ∧ d < (gm_s G r).toNat ∧ 16777216 ≤ gr_pc G t (fun n i j => min (gs_K m1 n i j) 16777216) r d (c d) (c (d + 1))
        · obtain ⟨d, d0, d1, q⟩ := q
          have := gsum_ge (f := fun d => gr_pc G t (fun n i j => min (gs_K m1 n i j) 16777216) r d (c d) (c (d + 1))) (gm_s G r).toNat (fun d d0 d1 => (pcs d d0 d1).1) d d0 d1
          unfold gr_sm
          (try dsimp only at this ⊢)
          omega
        · have e2 : gr_sm G t (fun n i j => min (gs_K m1 n i j) 16777216) r c (gm_s G r).toNat = gr_sm G t (gs_K m1) r c (gm_s G r).toNat := gsum_cg _ (fun d d0 d1 => (pcs d d0 d1).2.resolve_left (fun y => q ⟨d, d0, d1, y⟩))
          rw [e2]
          (try dsimp only)
          omega) z.toNat 0 0 z (by decide) (by omega) (by decide) (by omega) (Int.le_refl _)
    have lo := sn.2.2.1 0 0 z (by decide) (by omega) (by decide) z0 (Int.le_refl _)
    have mm := mvb 0 0 z (by decide) (by omega) (by decide) z0 (Int.le_refl _)
    have bb := hb 0 0 z (by decide) (by omega) (by decide) z0 (Int.le_refl _)
    have e0 : gs_K m1 0 0 z = m1 102 z := by
      unfold gs_K
      have : 81 * 0 + 9 * 0 + z = z := by omega
      rw [this]
    have e1 : 81 * 0 + 9 * 0 + z = z := by omega
    rw [e1] at lo
    (try dsimp only at up)
    rw [e0] at up
    have fin : (if m1 102 z < 1000000000 then m1 102 z else -1) = (if C 0 0 z < 16777216 then C 0 0 z else -1) := by
      by_cases q : C 0 0 z < 16777216
      · have := mm.2.2.1 q
        rw [if_pos q, if_pos (by omega)]
        omega
      · have := mm.2.2.2 q
        rw [if_neg q, if_neg (by omega)]
    rw [fin]
    exact h m1 hx
