/-! PICKING: the class shares out -/
theorem gx_t {S : List Int} {m m1 m2 : gh_M} (h1 : gx S m m1) (h2 : gx S m1 m2) : gx S m m2 := fun a ha => (h2 a ha).trans (h1 a ha)
theorem gk_own_le {G : gm_G} {z : Int} {t : Int → Int} {T : Int → Int → Int → (Int → Prop) → Int} (hT : ∀ n i j A, T n i j A ≤ 1000000000000000000) (r i j : Int) (B : Int → Prop) (d k e : Int) : gk_own G z t T r i j B d k e ≤ 1000000000000000000 := by
  unfold gk_own
  have f01 := gt_ib_01 (P := e = k + 1 ∧ k < z ∧ gb (gm_p G r d) (t k))
  by_cases w : gm_n G r d = -1
  · rw [if_pos w]
    omega
  · rw [if_neg w]
    by_cases u : k = i ∧ e = j
    · rw [if_pos u]
      exact hT _ _ _ _
    · rw [if_neg u]
      exact hT _ _ _ _
/-- where the first parts end and which of their trees, one behind another -/
def gp_sh (G : gm_G) (z : Int) (t : Int → Int) (r i j A k : Int) (cu sh : Int → Int) : Nat → Int → Int → Prop
  | 0, p, l => p = i ∧ l = k
  | d + 1, p, l => ∃ p0 l0 l2, gp_sh G z t r i j A k cu sh d p0 l0 ∧ gp_cut G z t r i j A d p0 l0 p l2 ∧ cu d = p ∧ sh d = l2 / gk_R G z t r i j (gb A) (d + 1) p ∧ l = l2 % gk_R G z t r i j (gb A) (d + 1) p
theorem gp_sh_cg {G : gm_G} {z : Int} {t : Int → Int} {r i j A k : Int} {cu sh cu2 sh2 : Int → Int} : ∀ (d : Nat) (p l : Int), (∀ x : Int, 0 ≤ x → x < d → cu2 x = cu x ∧ sh2 x = sh x) → gp_sh G z t r i j A k cu sh d p l → gp_sh G z t r i j A k cu2 sh2 d p l
  | 0, _, _, _, h => h
  | d + 1, p, l, hx, ⟨p0, l0, l2, a1, a2, a3, a4, a5⟩ => ⟨p0, l0, l2, gp_sh_cg d p0 l0 (fun x x0 x1 => hx x x0 (by omega)) a1, a2, by rw [(hx d (by omega) (by omega)).1]; exact a3, by rw [(hx d (by omega) (by omega)).2]; exact a4, a5⟩
def gp_st (i : Int) (cu : Int → Int) (d : Int) : Int := if d = 0 then i else cu (d - 1)
/-- the nodes of the last c parts -/
def gp_L (G : gm_G) (t : Int → Int) (r i j A lv : Int) (cu sh : Int → Int) : Nat → List gp_nd
  | 0 => []
  | c + 1 => gp_kid G t r i j A lv (gm_s G r - ((c : Int) + 1)) (gp_st i cu (gm_s G r - ((c : Int) + 1))) (cu (gm_s G r - ((c : Int) + 1))) (sh (gm_s G r - ((c : Int) + 1))) :: gp_L G t r i j A lv cu sh c
theorem gp_sh_st {G : gm_G} {z : Int} {t : Int → Int} {r i j A k : Int} {cu sh : Int → Int} {d : Nat} {p l : Int} (h : gp_sh G z t r i j A k cu sh d p l) : gp_st i cu d = p := by
  unfold gp_st
  cases d with
  | zero =>
    rw [if_pos (show ((0 : Nat) : Int) = 0 from rfl)]
    exact h.1.symm
  | succ d =>
    obtain ⟨p0, l0, l2, a1, a2, a3, a4, a5⟩ := h
    have e : ((d + 1 : Nat) : Int) - 1 = d := by omega
    rw [if_neg (by omega), e]
    exact a3
theorem gp_sh_kids {G : gm_G} {z : Int} {t : Int → Int} {r i j A k lv : Int} {cu sh : Int → Int} {p l : Int} (s0 : 0 ≤ gm_s G r) (h : gp_sh G z t r i j A k cu sh (gm_s G r).toNat p l) : ∀ c : Nat, (c : Int) ≤ gm_s G r → ∃ p l, gp_sh G z t r i j A k cu sh (gm_s G r - c).toNat p l ∧ gp_kids G z t r i j A lv c p l (gp_L G t r i j A lv cu sh c)
  | 0, _ => ⟨p, l, by
      have e : (gm_s G r - ((0 : Nat) : Int)).toNat = (gm_s G r).toNat := by omega
      rw [e]
      exact h, rfl⟩
  | c + 1, hc => by
    obtain ⟨p1, l1, a1, a2⟩ := gp_sh_kids (lv := lv) s0 h c (by omega)
    have e : (gm_s G r - (c : Int)).toNat = (gm_s G r - ((c + 1 : Nat) : Int)).toNat + 1 := by omega
    rw [e] at a1
    obtain ⟨p0, l0, l2, b1, b2, b3, b4, b5⟩ := a1
    have e2 : (((gm_s G r - ((c + 1 : Nat) : Int)).toNat : Nat) : Int) = gm_s G r - ((c : Int) + 1) := by omega
    have e4 := gp_sh_st b1
    rw [e2] at b2 b3 b4 b5 e4
    have e3 : gm_s G r - ((c : Int) + 1) + 1 = gm_s G r - c := by omega
    rw [e3] at b4 b5
    refine ⟨p0, l0, b1, p1, l2, gp_L G t r i j A lv cu sh c, b2, ?_, ?_⟩
    · show gp_kid G t r i j A lv (gm_s G r - ((c : Int) + 1)) (gp_st i cu (gm_s G r - ((c : Int) + 1))) (cu (gm_s G r - ((c : Int) + 1))) (sh (gm_s G r - ((c : Int) + 1))) :: gp_L G t r i j A lv cu sh c = _
      rw [e4, b3, b4]
    · rw [← b5]
      exact a2
def gp_tab (G : gm_G) (z : Int) (t : Int → Int) (r i j A : Int) (m : gh_M) : Prop := ∀ d p, 0 ≤ d → d ≤ gm_s G r → i ≤ p → p ≤ j → gt_row G z t (gt_M G z t) r d i p → m 43 (d * 9 + p) = gk_R G z t r i j (gb A) d p
def gp_ff (gk_K : Int) (G : gm_G) (z : Int) (t : Int → Int) (r i j A ci cj : Int) (m m2 : gh_M) : Prop := gx [0, 41, 42, 43, 44, 56, 57, 66, 67] m m2 ∧ (∀ y, y ≠ 7 → y ≠ 8 → m2 41 y = m 41 y) ∧ gk_pk gk_K G z t ci cj m2 ∧ gp_tab G z t r i j A m2
theorem gp_ff_u {gk_K : Int} {G : gm_G} {z : Int} {t : Int → Int} {r i j A ci cj : Int} {m m2 : gh_M} (h : gp_ff gk_K G z t r i j A ci cj m m2) {a x v : Int} (ha : a = 56 ∨ a = 57) : gp_ff gk_K G z t r i j A ci cj m (gh_u m2 a x v) := by
  obtain ⟨h1, h2, h3, h4⟩ := h
  rcases ha with ha | ha <;> subst ha
  · exact ⟨gx_u h1 (by decide), fun y a b => by rw [gh_u_a (by decide)]; exact h2 y a b, gk_pk_x (gx_one m2 56 x v) (by decide) h3, fun d p a b c e f => by rw [gh_u_a (by decide)]; exact h4 d p a b c e f⟩
  · exact ⟨gx_u h1 (by decide), fun y a b => by rw [gh_u_a (by decide)]; exact h2 y a b, gk_pk_x (gx_one m2 57 x v) (by decide) h3, fun d p a b c e f => by rw [gh_u_a (by decide)]; exact h4 d p a b c e f⟩
theorem gp_H_t {G : gm_G} (hG : gm_ok G) {z : Int} {t : Int → Int} {r i j A d p e : Int} {m : gh_M} (d0 : 0 ≤ d) (d1 : d < gm_s G r) (ip : i ≤ p) (pe : p ≤ e) (ej : e ≤ j) (tb : gp_tab G z t r i j A m) (row : gt_row G z t (gt_M G z t) r d i p) : gp_H G z t r i j A d p (e - p) = min (gk_own G z t (gk_C G z t) r i j (gb A) d p e * m 43 ((d + 1) * 9 + e)) 1000000000000000000 := by
  have ee : p + (e - p) = e := by omega
  unfold gp_H
  rw [ee]
  by_cases w : gk_own G z t (gk_C G z t) r i j (gb A) d p e = 0
  · rw [w, Int.zero_mul, Int.zero_mul]
  · have pm := gk_own_pm (fun n i j A => gk_C_M) w
    have row2 : gt_row G z t (gt_M G z t) r (d + 1) i e := by
      rw [gt_row_s d0]
      exact ⟨p, row, pm⟩
    rw [tb (d + 1) e (by omega) (by omega) (by omega) ej row2]
def gp_I1 (gk_K : Int) (G : gm_G) (z : Int) (t : Int → Int) (r i j A k ci cj : Int) (m : gh_M) (p l d : Int) (m2 : gh_M) : Prop := 0 ≤ d ∧ d ≤ gm_s G r ∧ gp_sh G z t r i j A k (m2 56) (m2 57) d.toNat p l ∧ i ≤ p ∧ p ≤ j ∧ 0 ≤ l ∧ l < gk_R G z t r i j (gb A) d p ∧ gt_row G z t (gt_M G z t) r d i p ∧ gp_ff gk_K G z t r i j A ci cj m m2
def gp_I2 (gk_K : Int) (G : gm_G) (z : Int) (t : Int → Int) (r i j A k ci cj : Int) (m : gh_M) (p l d l1 f e : Int) (m2 : gh_M) : Prop := p ≤ e ∧ e ≤ j + 1 ∧ (f = 0 ∨ f = 1) ∧ gp_ff gk_K G z t r i j A ci cj m m2 ∧ gp_sh G z t r i j A k (m2 56) (m2 57) d.toNat p l ∧ 0 ≤ l1 ∧ (f = 0 → l = gsum (gp_H G z t r i j A d p) (e - p).toNat + l1) ∧ (f = 1 → m2 56 d = e - 1 ∧ ∃ l2, gp_cut G z t r i j A d p l (e - 1) l2 ∧ m2 57 d = l2 / gk_R G z t r i j (gb A) (d + 1) (e - 1) ∧ l1 = l2 % gk_R G z t r i j (gb A) (d + 1) (e - 1))
theorem gp_shareOut {gk_K : Int} {G : gm_G} {z : Int} {t : Int → Int} {E : Int} {O : Int → Int} {m : gh_M} {Q : Int → gh_M → Prop} {n x i j B A k r ci cj : Int} (hG : gm_ok G) (fa : gk_fa G E O) (cx : gk_cx G z t O m) (pk : gk_pk gk_K G z t ci cj m) (x0 : 0 ≤ x) (x1 : x < 289) (e50 : m 50 x = n) (e51 : m 51 x = i) (e52 : m 52 x = j) (e53 : m 53 x = B) (e55 : m 55 x = k) (n0 : 0 ≤ n) (n1 : n < gm_N G) (i0 : 0 ≤ i) (ij : i ≤ j) (jz : j ≤ z) (hB : gbs 8 B) (hO : ∀ h, 0 ≤ h → h < gm_N G → gb B h → gb (O h) n) (hA : A = gh_ior_f B (gh_ishl_f 1 n)) (r0 : 0 ≤ r) (r1 : r < gm_R G) (ro : gm_o G r = n) (k0 : 0 ≤ k) (k1 : k < gk_R G z t r i j (gb A) 0 i) (hcc : i < j → ci = i ∧ cj = j) (tb : gp_tab G z t r i j A m) (H : ∀ m2 p l, gp_ff gk_K G z t r i j A ci cj m m2 → gp_sh G z t r i j A k (m2 56) (m2 57) (gm_s G r).toNat p l → Q 0 m2) : w_Picker_shareOut r x m Q := by
  have hN := hG.2.1
  have hR := hG.2.2.2.1
  have z8 : z ≤ 8 := by
    have := cx.2.1.2.1
    have := cx.2.2.2.2.1
    omega
  obtain ⟨p1, p2, p3, p4, p5⟩ := hG.2.2.2.2.1 r r0 r1
  have gA : gbs 8 A := by
    rw [hA]
    exact gbs_or (by decide) hB (gbs_one n0 (by omega) (by decide))
  unfold w_Picker_shareOut
  refine ⟨x0, x1, ?_⟩
  rw [e51]
  intro v3 hv3
  rw [hv3]
  clear hv3 v3
  refine ⟨x0, x1, ?_⟩
  rw [e52]
  intro v4 hv4
  rw [hv4]
  clear hv4 v4
  refine ⟨x0, x1, x0, x1, ?_⟩
  rw [e53, e50, ← hA]
  intro v5 hv5
  rw [hv5]
  clear hv5 v5
  refine ⟨x0, x1, ?_⟩
  rw [e55]
  intro v7 hv7
  rw [hv7]
  clear hv7 v7
  refine ⟨fun p l d m2 => gp_I1 gk_K G z t r i j A k ci cj m p l d m2, fun p l d m2 => (10 - d).toNat, ⟨Int.le_refl _, p3, ⟨rfl, rfl⟩, Int.le_refl _, ij, k0, k1, rfl, gx_rf, fun _ _ _ => rfl, pk, tb⟩, ?_⟩
  rintro p l d m2 ⟨d0, d1, sh, ip, pj, l0, l1, row, ff⟩
  have ff0 := ff
  obtain ⟨hx2, o2, pk2, tb2⟩ := ff
  unfold f_Picker_shareOut_46
  have cx2 : gk_cx G z t O m2 := gk_cx_x hx2 (by decide) cx
  have e17 := (cx2.1.2.2 r r0 r1).2.1
  rw [e17]
  refine ⟨r0, by omega, fun c => ?_, fun c => ?_⟩
  rotate_left
  · have e : d = gm_s G r := by omega
    rw [e] at sh
    exact H m2 p l ff0 sh
  have Rs := gk_R_s (G := G) (z := z) (t := t) (r := r) (i := i) (j := j) (B := gb A) (d := d) (k := p) d0 c
  have gs : l < gsum (gp_H G z t r i j A d p) (j + 1 - p).toNat := by
    have e : gsum (gp_H G z t r i j A d p) (j + 1 - p).toNat = gsum (fun x => min (gk_own G z t (gk_C G z t) r i j (gb A) d p (p + x) * gk_R G z t r i j (gb A) (d + 1) (p + x)) 1000000000000000000) (j + 1 - p).toNat := rfl
    omega
  refine ⟨fun l1 f e m3 => gp_I2 gk_K G z t r i j A k ci cj m p l d l1 f e m3, fun l1 f e m3 => (20 - e).toNat, ⟨Int.le_refl _, by omega, Or.inl rfl, ff0, sh, l0, fun _ => ?_, fun y => absurd y (by decide)⟩, ?_⟩
  · have e : (p - p).toNat = 0 := by omega
    rw [e]
    show l = 0 + l
    omega
  clear hx2 o2 pk2 tb2 cx2 ff0 e17 sh
  rintro l2 f e m3 ⟨pe, ej, f01, ff3, sh3, l20, hf0, hf1⟩
  have ff30 := ff3
  obtain ⟨hx3, o3, pk3, tb3⟩ := ff3
  have cx3 : gk_cx G z t O m3 := gk_cx_x hx3 (by decide) cx
  unfold f_Picker_shareOut_67
  refine ⟨fun l' m' => gp_I1 gk_K G z t r i j A k ci cj m (m' 56 d) l' (d + 1) m', fun l' m' w => ⟨d0, by omega, ?_⟩, fun cc => ?_, fun cc => ?_⟩
  · intro v6 hv6
    rw [hv6]
    exact ⟨by omega, w, by (try dsimp only); omega⟩
  · -- one end
    obtain ⟨ca, cb⟩ := cc
    have hl := hf0 cb
    have Ht := gp_H_t hG d0 c ip pe ca tb3 row
    have own0 := gk_own_nn (G := G) (z := z) (t := t) (T := gk_C G z t) (fun n i j A => (gk_C_b hG n i j A).1) r i j (gb A) d p e
    have own1 : gk_own G z t (gk_C G z t) r i j (gb A) d p e ≤ 1000000000000000000 := gk_own_le (G := G) (z := z) (t := t) (T := gk_C G z t) (fun n i j A => (gk_C_b hG n i j A).2) r i j (gb A) d p e
    have H0 := gp_H_nn hG (z := z) (t := t) (i := i) (j := j) (A := A) (d := d) (p := p) (x := e - p) r0 r1 d0
    have es : gsum (gp_H G z t r i j A d p) (e + 1 - p).toNat = gsum (gp_H G z t r i j A d p) (e - p).toNat + gp_H G z t r i j A d p (e - p) := by
      have e1 : (e + 1 - p).toNat = (e - p).toNat + 1 := by omega
      have e2 : (((e - p).toNat : Nat) : Int) = e - p := by omega
      rw [e1]
      show gsum _ _ + gp_H G z t r i j A d p (((e - p).toNat : Nat) : Int) = _
      rw [e2]
    unfold k_Forest_restAt x_Forest_restAt
    refine ⟨by omega, by omega, ?_⟩
    intro v12 hv
    refine ⟨fun l' f' m' => gp_I2 gk_K G z t r i j A k ci cj m p l d l' f' (e + 1) m', fun l' f' m' w => ⟨by omega, w, by (try dsimp only); omega⟩, fun q => ?_, fun q => ?_⟩
    · have : gk_own G z t (gk_C G z t) r i j (gb A) d p e * m3 43 ((d + 1) * 9 + e) ≤ 0 := Int.mul_nonpos_of_nonneg_of_nonpos own0 (by omega)
      refine ⟨by omega, by omega, f01, ff30, sh3, l20, fun _ => ?_, fun y => ?_⟩
      · rw [es]
        omega
      · omega
    · obtain ⟨kk, xx⟩ := gm_partAt hG cx3.1 r0 r1 d0 c
      refine ⟨kk, ?_⟩
      rw [xx]
      have st3 := gk_pk_st (i := i) (j := j) (by omega) i0 ij jz pk3
      have fin : ∀ m4, gp_ff gk_K G z t r i j A ci cj m m4 → m4 43 = m4 43 → gp_sh G z t r i j A k (m4 56) (m4 57) d.toNat p l → k_Forest_times (gk_own G z t (gk_C G z t) r i j (gb A) d p e) v12 ∧ ∀ v16 : Int, v16 = x_Forest_times (gk_own G z t (gk_C G z t) r i j (gb A) d p e) v12 → ∀ v10' : Int, v10' = (if (l2 < v16) then (1:Int) else 0) → 0 ≤ d ∧ d < 4 ∧ 0 ≤ l2 ∧ 0 < v12 ∧ 0 ≤ d ∧ d < 4 ∧ (((v10' = 0) → (gh_j (l2 - v16))) ∧ (¬ (v10' = 0) → (0 ≤ l2 ∧ 0 < v12))) ∧ ∀ v7' : Int, v7' = (if v10' = 0 then (l2 - v16) else (l2 % v12)) → gp_I2 gk_K G z t r i j A k ci cj m p l d v7' v10' (e + 1) (gh_u (gh_u m4 56 d e) 57 d (l2 / v12)) := by
        intro m4 ff4 _ sh4
        obtain ⟨kt, xt⟩ := gk_times own0 own1 (b := v12) (by omega)
        refine ⟨kt, ?_⟩
        rw [xt, hv, ← Ht]
        intro v16 hv16
        rw [hv16]
        clear hv16 v16
        have ffu : gp_ff gk_K G z t r i j A ci cj m (gh_u (gh_u m4 56 d e) 57 d (l2 / m3 43 ((d + 1) * 9 + e))) := gp_ff_u (gp_ff_u ff4 (Or.inl rfl)) (Or.inr rfl)
        have shu : gp_sh G z t r i j A k (gh_u (gh_u m4 56 d e) 57 d (l2 / m3 43 ((d + 1) * 9 + e)) 56) (gh_u (gh_u m4 56 d e) 57 d (l2 / m3 43 ((d + 1) * 9 + e)) 57) d.toNat p l := gp_sh_cg d.toNat p l (fun x x0 x1 => ⟨by rw [gh_u_a (by decide), gh_u_i (by omega)], by rw [gh_u_i (by omega), gh_u_a (by decide)]⟩) sh4
        by_cases u : l2 < gp_H G z t r i j A d p (e - p)
        · rw [if_pos u]
          intro f' hf'
          rw [hf']
          refine ⟨d0, by omega, l20, by omega, d0, by omega, ⟨fun y => absurd y (by decide), fun _ => ⟨l20, by omega⟩⟩, ?_⟩
          intro l' hl'
          rw [hl', if_neg (by decide)]
          have ct : gp_cut G z t r i j A d p l e l2 := ⟨pe, ca, hl, l20, u⟩
          have ow := (gp_cut_x hG r0 r1 d0 ct).1
          have row2 : gt_row G z t (gt_M G z t) r (d + 1) i e := by
            rw [gt_row_s d0]
            exact ⟨p, row, gk_own_pm (fun n i j A => gk_C_M) (by omega : gk_own G z t (gk_C G z t) r i j (gb A) d p e ≠ 0)⟩
          have tR := tb3 (d + 1) e (by omega) (by omega) (by omega) ca row2
          have e1 : e + 1 - 1 = e := by omega
          refine ⟨by omega, by omega, Or.inr rfl, ffu, shu, Int.emod_nonneg _ (by omega), fun y => absurd y (by decide), fun _ => ?_⟩
          rw [e1]
          refine ⟨by rw [gh_u_a (by decide), gh_u_s], l2, ct, ?_, ?_⟩
          · rw [gh_u_s, tR]
          · rw [tR]
        · rw [if_neg u]
          intro f' hf'
          rw [hf']
          refine ⟨d0, by omega, l20, by omega, d0, by omega, ⟨fun _ => ?_, fun y => absurd rfl y⟩, ?_⟩
          · have Rb := (gk_R_b hG (z := z) (t := t) (i := i) (j := j) (B := gb A) (d := d) (k := p) r0 r1 d0).2
            have g0 := gsum_nn (f := gp_H G z t r i j A d p) (e - p).toNat (fun y _ _ => gp_H_nn hG r0 r1 d0)
            omega
          intro l' hl'
          rw [hl', if_pos rfl]
          refine ⟨by omega, by omega, Or.inl rfl, ffu, shu, by omega, fun _ => ?_, fun y => absurd y (by decide)⟩
          rw [es]
          omega
      refine gk_ofPart (REC := gh_rec 10) hG r0 r1 i0 ip pe ca jz (Int.le_refl _) (by decide) d0 c cx3 st3.2.2.1 (fun _ => fin m3 ff30 rfl sh3) (fun hn ki ej2 => ?_)
      have nn := gm_n_rng hG r0 r1 d0 c
      refine gk_countOf hG fa i0 ij jz z8 hcc 10 (gm_n G r d) A (0 + 1) m3 _ (by decide) (by omega) (by omega) gA (by decide) (by decide) (fun mm => gp_hs hG fa r0 r1 d0 c ro n0 n1 hB hO hA hn ?_) cx3 st3 (fun m4 fx4 st4 => ?_)
      · have row2 : gt_row G z t (gt_M G z t) r (d + 1) i e := by
          rw [gt_row_s d0]
          refine ⟨p, row, Or.inr ⟨hn, ?_⟩⟩
          rw [ki, ej2]
          exact mm
        have tR := tb3 (d + 1) e (by omega) (by omega) (by omega) ca row2
        intro y y0 y1 yn
        by_cases lt : y < d
        · rw [ki] at row
          exact gk_row_i hG fa.1 (by omega) d0 row y0 lt
        · rw [ej2] at tR hv
          exact gk_R_j hG fa.1 (by omega : gk_R G z t r i j (gb A) (d + 1) j ≠ 0) (by omega) y1
      · have oC : gk_own G z t (gk_C G z t) r i j (gb A) d p e = gk_C G z t (gm_n G r d) i j (gb A) := by
          unfold gk_own
          rw [if_neg hn, if_pos ⟨ki, ej2⟩]
        have ff4 : gp_ff gk_K G z t r i j A ci cj m m4 := by
          refine ⟨gx_t hx3 (gx_sub fx4.1 (by decide)), fun y a b => ?_, gk_st_pk hG pk3 fx4 st4, fun d' p' a1 a2 a3 a4 a5 => ?_⟩
          · rw [fx4.2.1 y a b]
            exact o3 y a b
          · rw [fx4.2.2.1 _ (by omega)]
            exact tb3 d' p' a1 a2 a3 a4 a5
        rw [← oC]
        refine fin m4 ff4 rfl ?_
        rw [fx4.1 56 (by decide), fx4.1 57 (by decide)]
        exact sh3
  · -- the part has its end
    have f1 : f = 1 := by
      rcases f01 with y | y
      · exfalso
        have e1 : e = j + 1 := by
          have : ¬ e ≤ j := fun u => cc ⟨u, y⟩
          omega
        have := hf0 y
        rw [e1] at this
        omega
      · exact y
    obtain ⟨h56, l3, ct, h57, hl2⟩ := hf1 f1
    have cutx := gp_cut_x hG r0 r1 d0 ct
    have row2 : gt_row G z t (gt_M G z t) r (d + 1) i (e - 1) := by
      rw [gt_row_s d0]
      exact ⟨p, row, gk_own_pm (fun n i j A => gk_C_M) (by omega : gk_own G z t (gk_C G z t) r i j (gb A) d p (e - 1) ≠ 0)⟩
    show gp_I1 gk_K G z t r i j A k ci cj m (m3 56 d) l2 (d + 1) m3
    rw [h56]
    refine ⟨by omega, by omega, ?_, by have := ct.1; omega, ct.2.1, l20, by rw [hl2]; exact cutx.2.2.2.2.2, row2, ff30⟩
    have e1 : (d + 1).toNat = d.toNat + 1 := by omega
    have e2 : ((d.toNat : Nat) : Int) = d := by omega
    rw [e1]
    refine ⟨p, l, l3, sh3, ?_, ?_, ?_, ?_⟩
    · rw [e2]
      exact ct
    · rw [e2]
      exact h56
    · rw [e2]
      exact h57
    · rw [e2]
      exact hl2

