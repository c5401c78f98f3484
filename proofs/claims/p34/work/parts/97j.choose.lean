/-- what is still to be told, in its place, the next one last -/
def gp_enc (m : gh_M) : List gp_nd → Prop
  | [] => True
  | nd :: L => m 50 L.length = nd.1 ∧ (¬ nd.1 < 0 → m 51 L.length = nd.2.1 ∧ m 52 L.length = nd.2.2.1 ∧ m 53 L.length = nd.2.2.2.1 ∧ m 54 L.length = nd.2.2.2.2.1 ∧ m 55 L.length = nd.2.2.2.2.2) ∧ gp_enc m L
theorem gp_enc_cg {m m2 : gh_M} : ∀ L : List gp_nd, (∀ a x : Int, 50 ≤ a → a ≤ 55 → 0 ≤ x → x < L.length → m2 a x = m a x) → gp_enc m L → gp_enc m2 L
  | [], _, _ => trivial
  | nd :: L, h, ⟨h1, h2, h3⟩ => by
    have l1 : ((nd :: L).length : Int) = L.length + 1 := by
      show ((L.length + 1 : Nat) : Int) = _
      omega
    have g : ∀ a : Int, 50 ≤ a → a ≤ 55 → m2 a L.length = m a L.length := fun a a0 a1 => h a _ a0 a1 (by omega) (by omega)
    refine ⟨by rw [g 50 (by decide) (by decide)]; exact h1, fun y => ?_, gp_enc_cg L (fun a x a0 a1 x0 x1 => h a x a0 a1 x0 (by omega)) h3⟩
    rw [g 51 (by decide) (by decide), g 52 (by decide) (by decide), g 53 (by decide) (by decide), g 54 (by decide) (by decide), g 55 (by decide) (by decide)]
    exact h2 y
theorem gp_sh_z {G : gm_G} (hG : gm_ok G) {z : Int} {t : Int → Int} {r i j A k : Int} {cu sh : Int → Int} (r0 : 0 ≤ r) (r1 : r < gm_R G) (ij : i ≤ j) : ∀ (d : Nat) (p l : Int), (d : Int) ≤ gm_s G r → gp_sh G z t r i j A k cu sh d p l → (i ≤ p ∧ p ≤ j) ∧ ∀ x : Int, 0 ≤ x → x < d → i ≤ gp_st i cu x ∧ gp_st i cu x ≤ cu x ∧ cu x ≤ j ∧ (gm_n G r x = -1 → gp_st i cu x < z)
  | 0, p, l, _, h => ⟨⟨by rw [h.1]; exact Int.le_refl _, by rw [h.1]; exact ij⟩, fun x x0 x1 => by omega⟩
  | d + 1, p, l, hd, ⟨p0, l0, l2, a1, a2, a3, a4, a5⟩ => by
    obtain ⟨⟨b1, b2⟩, b3⟩ := gp_sh_z hG r0 r1 ij d p0 l0 (by omega) a1
    have a2x := gp_cut_x hG r0 r1 (by omega) a2
    have ap := a2.1
    have aq := a2.2.1
    refine ⟨⟨by omega, aq⟩, fun x x0 x1 => ?_⟩
    by_cases u : x < d
    · exact b3 x x0 u
    · have e : x = d := by omega
      have e2 := gp_sh_st a1
      rw [e, e2, a3]
      refine ⟨b1, ap, aq, fun y => ?_⟩
      rcases gk_own_pm (fun n i j A => gk_C_M) (by omega : gk_own G z t (gk_C G z t) r i j (gb A) d p0 p ≠ 0) with ⟨_, _, v, _⟩ | ⟨v, _⟩
      · exact v
      · exact absurd y v
theorem gp_pushParts {G : gm_G} {z : Int} {t O : Int → Int} {m : gh_M} {Q : Int → gh_M → Prop} {n x i j B A k r lv p l : Int} {L : List gp_nd} (hG : gm_ok G) (cx : gk_cx G z t O m) (x1 : x < 289) (ex : x = L.length) (e14 : m 47 14 = L.length) (e50 : m 50 x = n) (e51 : m 51 x = i) (e52 : m 52 x = j) (e53 : m 53 x = B) (e54 : m 54 x = lv) (lv0 : 0 ≤ lv) (lv1 : lv < 1000) (i0 : 0 ≤ i) (ij : i ≤ j) (jz : j ≤ z) (hA : A = gh_ior_f B (gh_ishl_f 1 n)) (r0 : 0 ≤ r) (r1 : r < gm_R G) (en : gp_enc m L) (len : (L.length : Int) ≤ 244) (sh : gp_sh G z t r i j A k (m 56) (m 57) (gm_s G r).toNat p l) (H : ∀ m2, gx [47, 50, 51, 52, 53, 54, 55] m m2 → (∀ y, y ≠ 14 → m2 47 y = m 47 y) → m2 47 14 = L.length + gm_s G r → gp_enc m2 (gp_L G t r i j A (lv + 1) (m 56) (m 57) (gm_s G r).toNat ++ L) → Q 0 m2) : w_Picker_pushParts r x m Q := by
  have hN := hG.2.1
  have hR := hG.2.2.2.1
  have z8 : z ≤ 8 := by
    have := cx.2.1.2.1
    have := cx.2.2.2.2.1
    omega
  obtain ⟨p1, p2, p3, p4, p5⟩ := hG.2.2.2.2.1 r r0 r1
  have x0 : 0 ≤ x := by omega
  obtain ⟨_, shz⟩ := gp_sh_z hG r0 r1 ij _ p l (by omega) sh
  have e17 := (cx.1.2.2 r r0 r1).2.1
  unfold w_Picker_pushParts
  refine ⟨x0, x1, ?_⟩
  rw [e51]
  intro v3 hv3
  rw [hv3]
  clear hv3 v3
  refine ⟨x0, x1, ?_⟩
  rw [e52]
  intro v4 hv4
  rw [hv4]
  clear hv4 v4
  refine ⟨x0, x1, x0, x1, ?_⟩
  rw [e53, e50, ← hA]
  intro v5 hv5
  rw [hv5]
  clear hv5 v5
  refine ⟨x0, x1, ?_⟩
  rw [e54]
  refine ⟨by omega, ?_⟩
  intro v6 hv6
  rw [hv6]
  clear hv6 v6
  rw [e17]
  refine ⟨r0, by omega, by omega, ?_⟩
  intro v7 hv7
  have Llen : ∀ c : Nat, (c : Int) ≤ gm_s G r → (gp_L G t r i j A (lv + 1) (m 56) (m 57) c).length = c := by
    intro c
    induction c with
    | zero => exact fun _ => rfl
    | succ c ih =>
      intro h
      show (gp_L G t r i j A (lv + 1) (m 56) (m 57) c).length + 1 = c + 1
      rw [ih (by omega)]
  refine ⟨fun d m2 => -1 ≤ d ∧ d < gm_s G r ∧ gx [47, 50, 51, 52, 53, 54, 55] m m2 ∧ (∀ y, y ≠ 14 → m2 47 y = m 47 y) ∧ m2 47 14 = L.length + (gm_s G r - 1 - d) ∧ gp_enc m2 (gp_L G t r i j A (lv + 1) (m 56) (m 57) (gm_s G r - 1 - d).toNat ++ L), fun d m2 => (d + 1).toNat, ⟨by omega, by omega, gx_rf, fun _ _ => rfl, by omega, ?_⟩, ?_⟩
  · have e : (gm_s G r - 1 - v7).toNat = 0 := by omega
    rw [e]
    exact en
  rintro d m2 ⟨d0, d1, hx2, o2, e2, en2⟩
  have cx2 : gk_cx G z t O m2 := gk_cx_x hx2 (by decide) cx
  have e56 : m2 56 = m 56 := hx2 56 (by decide)
  have e57 : m2 57 = m 57 := hx2 57 (by decide)
  unfold f_Picker_pushParts_55
  refine ⟨fun c => ?_, fun c => ⟨fun y => ⟨by omega, by omega, by omega⟩, ?_⟩⟩
  · have e : d = -1 := by omega
    have e3 : (gm_s G r - 1 - d).toNat = (gm_s G r).toNat := by omega
    rw [e3] at en2
    exact H m2 hx2 o2 (by omega) en2
  rw [e56, e57]
  obtain ⟨s1, s2, s3, s4⟩ := shz d (by omega) (by omega)
  intro v8 hv8
  have hv8' : v8 = gp_st i (m 56) d := hv8
  rw [hv8']
  clear hv8' hv8 v8
  refine ⟨fun _ => ⟨by omega, by omega⟩, ?_⟩
  intro v9 hv9
  obtain ⟨kn, xn⟩ := gm_nameAt hG cx2.1 r0 r1 (d := d) (by omega) d1
  refine ⟨kn, ?_⟩
  rw [xn]
  intro v10 hv10
  rw [hv10]
  clear hv10 v10
  have e26 := cx2.2.2.2.2.1
  have e27 := cx2.2.2.2.2.2.1
  have tt : gm_n G r d = -1 → x_Text_letterAt (gp_st i (m 56) d) m2 = t (gp_st i (m 56) d) ∧ 0 ≤ t (gp_st i (m 56) d) ∧ t (gp_st i (m 56) d) < 26 := fun y => by
    have sz := s4 y
    have lt := cx2.2.1.2.2 (gp_st i (m 56) d) (by omega) (by omega)
    rw [e27] at lt
    refine ⟨?_, lt.1, by omega⟩
    unfold x_Text_letterAt
    rw [if_neg (by omega), if_pos (by omega), e27]
  have sn : ((gp_L G t r i j A (lv + 1) (m 56) (m 57) (gm_s G r - 1 - d).toNat ++ L).length : Int) = L.length + (gm_s G r - 1 - d) := by
    rw [List.length_append, Llen _ (by omega)]
    omega
  have es : (gm_s G r - 1 - (d + -1)).toNat = (gm_s G r - 1 - d).toNat + 1 := by omega
  have ed : gm_s G r - (((gm_s G r - 1 - d).toNat : Nat) : Int) - 1 = d := by omega
  have ed : gm_s G r - ((((gm_s G r - 1 - d).toNat : Nat) : Int) + 1) = d := by omega
  refine ⟨fun y => ⟨?_, ?_⟩, by omega, by omega, by omega, by omega, ?_⟩
  · unfold k_Text_letterAt
    have := s4 y
    exact fun _ _ => ⟨by omega, by omega⟩
  · have := tt y
    rw [this.1]
    omega
  obtain ⟨val, hval⟩ : ∃ val, val = (if gm_n G r d = -1 then -1 - x_Text_letterAt (gp_st i (m 56) d) m2 else gm_n G r d) := ⟨_, rfl⟩
  obtain ⟨av, hav⟩ : ∃ av, av = (if v9 = 0 then 0 else A) := ⟨_, rfl⟩
  rw [← hval, ← hav]
  unfold w_Picker_push
  refine ⟨fun c2 => ⟨by omega, c2, by omega, c2, by omega, c2, by omega, c2, by omega, c2, by omega, c2, by omega, ?_⟩, fun c2 => absurd (by omega) c2⟩
  refine ⟨by omega, ⟨by omega, by omega, ?_, fun y hy => ?_, ?_, ?_⟩, by (try dsimp only); omega⟩
  · exact gx_u (gx_u (gx_u (gx_u (gx_u (gx_u (gx_u hx2 (by decide)) (by decide)) (by decide)) (by decide)) (by decide)) (by decide)) (by decide)
  · rw [gh_u_i hy, gh_u_a (by decide), gh_u_a (by decide), gh_u_a (by decide), gh_u_a (by decide), gh_u_a (by decide), gh_u_a (by decide)]
    exact o2 y hy
  · rw [gh_u_s]
    omega
  · rw [es]
    show gp_enc _ (gp_kid G t r i j A (lv + 1) (gm_s G r - ((((gm_s G r - 1 - d).toNat : Nat) : Int) + 1)) (gp_st i (m 56) (gm_s G r - ((((gm_s G r - 1 - d).toNat : Nat) : Int) + 1))) (m 56 (gm_s G r - ((((gm_s G r - 1 - d).toNat : Nat) : Int) + 1))) (m 57 (gm_s G r - ((((gm_s G r - 1 - d).toNat : Nat) : Int) + 1))) :: (gp_L G t r i j A (lv + 1) (m 56) (m 57) (gm_s G r - 1 - d).toNat ++ L))
    rw [ed]
    have en3 := gp_enc_cg (m2 := gh_u (gh_u (gh_u (gh_u (gh_u (gh_u (gh_u m2 50 (m2 47 14) val) 51 (m2 47 14) (gp_st i (m 56) d)) 52 (m2 47 14) (m 56 d)) 53 (m2 47 14) av) 54 (m2 47 14) (lv + 1)) 55 (m2 47 14) (m 57 d)) 47 14 (m2 47 14 + 1)) _ (fun a x a0 a1 x0 x1 => by
      have xn : x ≠ m2 47 14 := by omega
      rw [gh_u_a (by omega), gh_u_i xn, gh_u_i xn, gh_u_i xn, gh_u_i xn, gh_u_i xn, gh_u_i xn]) en2
    rw [e2, ← sn] at en3 ⊢
    unfold gp_kid
    by_cases w : gm_n G r d = -1
    · rw [if_pos w] at hval ⊢
      refine ⟨?_, fun y => absurd ?_ y, en3⟩
      · rw [gh_u_a (by decide), gh_u_a (by decide), gh_u_a (by decide), gh_u_a (by decide), gh_u_a (by decide), gh_u_a (by decide), gh_u_s, hval, (tt w).1]
        rfl
      · show -1 - t _ < 0
        have := (tt w).2
        omega
    · rw [if_neg w] at hval ⊢
      refine ⟨?_, fun y => ⟨?_, ?_, ?_, ?_, ?_⟩, en3⟩
      · rw [gh_u_a (by decide), gh_u_a (by decide), gh_u_a (by decide), gh_u_a (by decide), gh_u_a (by decide), gh_u_a (by decide), gh_u_s, hval]
        rfl
      · rw [gh_u_a (by decide), gh_u_a (by decide), gh_u_a (by decide), gh_u_a (by decide), gh_u_a (by decide), gh_u_s]
        rfl
      · rw [gh_u_a (by decide), gh_u_a (by decide), gh_u_a (by decide), gh_u_a (by decide), gh_u_s]
        rfl
      · rw [gh_u_a (by decide), gh_u_a (by decide), gh_u_a (by decide), gh_u_s, hav, hv9]
        show _ = if gp_st i (m 56) d = i ∧ m 56 d = j then A else 0
        by_cases u : gp_st i (m 56) d = i ∧ m 56 d = j
        · rw [if_pos u, if_pos u, if_neg (by decide)]
        · rw [if_neg u, if_neg u, if_pos rfl]
      · rw [gh_u_a (by decide), gh_u_a (by decide), gh_u_s]
        rfl
      · rw [gh_u_a (by decide), gh_u_s]
        rfl
theorem gp_choose {gk_K : Int} {G : gm_G} {z : Int} {t : Int → Int} {E : Int} {O : Int → Int} {m : gh_M} {Q : Int → gh_M → Prop} {k ci0 cj0 : Int} (hG : gm_ok G) (fa : gk_fa G E O) (cx : gk_cx G z t O m) (pk : gk_pk gk_K G z t ci0 cj0 m) (k0 : 0 ≤ k) (k1 : k < gk_C G z t 0 0 z (fun _ => False)) (tb : m 41 9 < 2147482000) (H1 : ∀ (m2 : gh_M) (u : Nat) (tr : Int → Int) (dp ci cj : Int), gp_run G z t k u tr dp [] → (u : Int) ≤ 300 → gx [0, 41, 42, 43, 44, 47, 48, 49, 50, 51, 52, 53, 54, 55, 56, 57, 66, 67] m m2 → (∀ y, y < 7 → m2 41 y = m 41 y) → (∀ y, y ≠ 4 → y ≠ 5 → y ≠ 7 → y ≠ 14 → m2 47 y = m 47 y) → gk_pk gk_K G z t ci cj m2 → m2 41 9 ≤ m 41 9 + 300 → m2 47 4 = u → m2 47 5 = dp → (∀ x : Int, 0 ≤ x → x < u → m2 48 x = tr x) → Q u m2) (H2 : ∀ (m2 : gh_M) (tr : Int → Int) (dp ci cj : Int) (L : List gp_nd), gp_run G z t k 300 tr dp L → L ≠ [] → gx [0, 41, 42, 43, 44, 47, 49, 50, 51, 52, 53, 54, 55, 56, 57, 66, 67] m m2 → (∀ y, y < 7 → m2 41 y = m 41 y) → (∀ y, y ≠ 7 → y ≠ 14 → m2 47 y = m 47 y) → gk_pk gk_K G z t ci cj m2 → m2 41 9 ≤ m 41 9 + 300 → Q (-1004) m2) : w_Picker_choose k m Q := by
  have hN0 := hG.1
  have hN := hG.2.1
  have hR := hG.2.2.2.1
  have z0 : 0 ≤ z := by
    have := cx.2.1.1
    have := cx.2.2.2.2.1
    omega
  have z8 : z ≤ 8 := by
    have := cx.2.1.2.1
    have := cx.2.2.2.2.1
    omega
  have e26 := cx.2.2.2.2.1
  unfold w_Picker_choose w_Picker_push
  rw [gh_u_s, e26]
  refine ⟨fun _ => ⟨by decide, by decide, by decide, by decide, by decide, by decide, by decide, by decide, by decide, by decide, by decide, by decide, by decide, ?_⟩, fun y => absurd (by decide) y⟩
  obtain ⟨mm, hmm⟩ : ∃ mm, mm = gh_u (gh_u (gh_u (gh_u (gh_u (gh_u (gh_u (gh_u (gh_u m 47 7 0) 47 14 0) 50 0 0) 51 0 0) 52 0 z) 53 0 0) 54 0 1) 55 0 k) 47 14 (0 + 1) := ⟨_, rfl⟩
  rw [← hmm]
  have hxm : gx [0, 41, 42, 43, 44, 47, 49, 50, 51, 52, 53, 54, 55, 56, 57, 66, 67] m mm := by
    rw [hmm]
    exact gx_u (gx_u (gx_u (gx_u (gx_u (gx_u (gx_u (gx_u (gx_u gx_rf (by decide)) (by decide)) (by decide)) (by decide)) (by decide)) (by decide)) (by decide)) (by decide)) (by decide)
  have hxm2 : gx [47, 50, 51, 52, 53, 54, 55] m mm := by
    rw [hmm]
    exact gx_u (gx_u (gx_u (gx_u (gx_u (gx_u (gx_u (gx_u (gx_u gx_rf (by decide)) (by decide)) (by decide)) (by decide)) (by decide)) (by decide)) (by decide)) (by decide)) (by decide)
  have o47 : ∀ y, y ≠ 7 → y ≠ 14 → mm 47 y = m 47 y := fun y a b => by
    rw [hmm, gh_u_i b, gh_u_a (by decide), gh_u_a (by decide), gh_u_a (by decide), gh_u_a (by decide), gh_u_a (by decide), gh_u_a (by decide), gh_u_i b, gh_u_i a]
  have m7 : mm 47 7 = 0 := by
    rw [hmm, gh_u_i (by decide), gh_u_a (by decide), gh_u_a (by decide), gh_u_a (by decide), gh_u_a (by decide), gh_u_a (by decide), gh_u_a (by decide), gh_u_i (by decide), gh_u_s]
  have m14 : mm 47 14 = 1 := by
    rw [hmm, gh_u_s]
    rfl
  have m50 : mm 50 0 = 0 := by
    rw [hmm, gh_u_a (by decide), gh_u_a (by decide), gh_u_a (by decide), gh_u_a (by decide), gh_u_a (by decide), gh_u_a (by decide), gh_u_s]
  have m51 : mm 51 0 = 0 := by
    rw [hmm, gh_u_a (by decide), gh_u_a (by decide), gh_u_a (by decide), gh_u_a (by decide), gh_u_a (by decide), gh_u_s]
  have m52 : mm 52 0 = z := by
    rw [hmm, gh_u_a (by decide), gh_u_a (by decide), gh_u_a (by decide), gh_u_a (by decide), gh_u_s]
  have m53 : mm 53 0 = 0 := by
    rw [hmm, gh_u_a (by decide), gh_u_a (by decide), gh_u_a (by decide), gh_u_s]
  have m54 : mm 54 0 = 1 := by
    rw [hmm, gh_u_a (by decide), gh_u_a (by decide), gh_u_s]
  have m55 : mm 55 0 = k := by
    rw [hmm, gh_u_a (by decide), gh_u_s]
  have k2 : k < gk_C G z t 0 0 z (gb 0) := by
    rw [gk_C_nil hG fa.1 (Int.le_refl _) (by omega)]
    exact k1
  have rk := gk_rk_le (i := 0) (j := z) (A := gb 0) (by omega)
  clear hmm
  refine ⟨fun u m2 => ∃ (L : List gp_nd) (ci cj : Int), 0 ≤ u ∧ u ≤ 300 ∧ gp_run G z t k u.toNat (m2 49) (m2 47 7) L ∧ gp_enc m2 L ∧ m2 47 14 = L.length ∧ gp_ok G z t O (u + 1) L ∧ gp_cur ci cj L ∧ gk_pk gk_K G z t ci cj m2 ∧ gx [0, 41, 42, 43, 44, 47, 49, 50, 51, 52, 53, 54, 55, 56, 57, 66, 67] m m2 ∧ (∀ y, y < 7 → m2 41 y = m 41 y) ∧ (∀ y, y ≠ 7 → y ≠ 14 → m2 47 y = m 47 y) ∧ m2 41 9 ≤ m 41 9 + u, fun u m2 => (400 - u).toNat, ⟨[gp_na 0 0 z 0 1 k], ci0, cj0, Int.le_refl _, by decide, ⟨m7, rfl⟩, ⟨m50, fun _ => ⟨m51, m52, m53, m54, m55⟩, trivial⟩, m14, ⟨⟨fun y => absurd y (by show ¬ (0 : Int) < 0; decide), fun _ => ⟨by show (0 : Int) < _; omega, Int.le_refl _, z0, Int.le_refl _, gbs_0 8, gb_0 _, fun h h0 h1 y => absurd y (gb_0 h), ⟨by show (0 : Int) ≤ 1; decide, by show (1 : Int) ≤ 0 + 1; decide⟩, k0, k2, ?_⟩⟩, trivial⟩, ⟨fun _ _ => ⟨trivial, fun y => absurd rfl y⟩, trivial⟩, gk_pk_x hxm2 (by decide) pk, hxm, fun y _ => by rw [hxm2 41 (by decide)], o47, by rw [hxm2 41 (by decide)]; omega⟩, ?_⟩
  · show (0 : Int) + 3 * (gk_rk 0 z (gb 0) : Int) ≤ 240
    omega
  clear m7 m14 m50 m51 m52 m53 m54 m55 o47 hxm2 hxm rk
  rintro u m2 ⟨L0, ci, cj, u0, u3, run, en, e14, ok, cur, pk2, hx2, o41, o47, tu⟩
  have un : ((u.toNat : Nat) : Int) = u := by omega
  have cx2 : gk_cx G z t O m2 := gk_cx_x hx2 (by decide) cx
  unfold f_Picker_choose_28
  cases L0 with
  | nil =>
    have e14' : m2 47 14 = 0 := e14
    refine ⟨fun _ => ⟨u0, by omega, by omega, ?_⟩, fun y => absurd (by omega) y⟩
    have h := H1 (gh_u (gh_u (gh_cpy m2 49 0 48 0 u) 47 4 u) 47 5 ((gh_cpy m2 49 0 48 0 u) 47 7)) u.toNat (m2 49) (m2 47 7) ci cj run (by omega) ?_ ?_ ?_ ?_ ?_ ?_ ?_ ?_
    · rw [un] at h
      exact h
    · refine gx_u (gx_u (fun a ha => ?_) (by decide)) (by decide)
      have e : gh_cpy m2 49 0 48 0 u a = m2 a := by
        funext x
        unfold gh_cpy
        exact if_neg (fun y => ha (by rw [y.1]; decide))
      rw [e]
      exact hx2 a (fun y => ha (by
        simp only [List.mem_cons, List.not_mem_nil, or_false] at y ⊢
        omega))
    · intro y y7
      rw [gh_u_a (by decide), gh_u_a (by decide)]
      unfold gh_cpy
      rw [if_neg (fun y => absurd y.1 (by decide))]
      exact o41 y y7
    · intro y a b c d
      rw [gh_u_i b, gh_u_i a]
      unfold gh_cpy
      rw [if_neg (fun y => absurd y.1 (by decide))]
      exact o47 y c d
    · refine gk_pk_x (S := [47, 48]) (gx_u (gx_u (fun a ha => ?_) (by decide)) (by decide)) (by decide) pk2
      funext x
      unfold gh_cpy
      exact if_neg (fun y => ha (by rw [y.1]; decide))
    · rw [gh_u_a (by decide), gh_u_a (by decide)]
      unfold gh_cpy
      rw [if_neg (fun y => absurd y.1 (by decide))]
      omega
    · rw [gh_u_i (by decide), gh_u_s, un]
    · rw [gh_u_s]
      unfold gh_cpy
      rw [if_neg (fun y => absurd y.1 (by decide))]
    · intro x x0 x1
      rw [gh_u_a (by decide), gh_u_a (by decide)]
      unfold gh_cpy
      rw [if_pos ⟨rfl, by omega, by omega⟩]
      have e : 0 + (x - 0) = x := by omega
      rw [e]
  | cons nd L =>
    have e14' : m2 47 14 = L.length + 1 := by
      have : ((nd :: L).length : Int) = L.length + 1 := by
        show ((L.length + 1 : Nat) : Int) = _
        omega
      omega
    refine ⟨fun y => absurd y (by omega), fun _ => ⟨fun y => ?_, fun y => ?_⟩⟩
    · have e : u.toNat = 300 := by omega
      rw [e] at run
      exact H2 m2 (m2 49) (m2 47 7) ci cj (nd :: L) run (List.cons_ne_nil _ _) hx2 o41 o47 pk2 (by omega)
    have T : m2 47 14 - 1 = L.length := by omega
    rw [T]
    obtain ⟨okn, okL⟩ := ok
    have len := gp_ok_len L okL
    obtain ⟨en1, en2, en3⟩ := en
    have fin : ∀ (m4 : gh_M) (e dp : Int) (L2 : List gp_nd) (ci2 cj2 : Int), (∀ x, x ≠ u → m4 49 x = m2 49 x) → m4 49 u = e → m4 47 7 = dp → gp_step G z t (nd :: L) e (m2 47 7) dp L2 → gp_enc m4 L2 → m4 47 14 = L2.length → gp_ok G z t O (u + 1 + 1) L2 → gp_cur ci2 cj2 L2 → gk_pk gk_K G z t ci2 cj2 m4 → gx [0, 41, 42, 43, 44, 47, 49, 50, 51, 52, 53, 54, 55, 56, 57, 66, 67] m m4 → (∀ y, y < 7 → m4 41 y = m 41 y) → (∀ y, y ≠ 7 → y ≠ 14 → m4 47 y = m 47 y) → m4 41 9 ≤ m 41 9 + (u + 1) → ∃ (L : List gp_nd) (ci cj : Int), 0 ≤ u + 1 ∧ u + 1 ≤ 300 ∧ gp_run G z t k (u + 1).toNat (m4 49) (m4 47 7) L ∧ gp_enc m4 L ∧ m4 47 14 = L.length ∧ gp_ok G z t O (u + 1 + 1) L ∧ gp_cur ci cj L ∧ gk_pk gk_K G z t ci cj m4 ∧ gx [0, 41, 42, 43, 44, 47, 49, 50, 51, 52, 53, 54, 55, 56, 57, 66, 67] m m4 ∧ (∀ y, y < 7 → m4 41 y = m 41 y) ∧ (∀ y, y ≠ 7 → y ≠ 14 → m4 47 y = m 47 y) ∧ m4 41 9 ≤ m 41 9 + (u + 1) := by
      intro m4 e dp L2 ci2 cj2 f1 f2 f3 f4 f5 f6 f7 f8 f9 f10 f11 f12 f13
      refine ⟨L2, ci2, cj2, by omega, by omega, ?_, f5, f6, f7, f8, f9, f10, f11, f12, f13⟩
      have e1 : (u + 1).toNat = u.toNat + 1 := by omega
      rw [e1, f3]
      refine ⟨m2 47 7, nd :: L, gp_run_cg _ (m2 49) (m4 49) _ _ (fun x x0 x1 => (f1 x (by omega)).symm) run, ?_⟩
      rw [un, f2]
      exact f4
    refine ⟨by omega, by omega, by omega, fun m4 => ∃ (L : List gp_nd) (ci cj : Int), 0 ≤ u + 1 ∧ u + 1 ≤ 300 ∧ gp_run G z t k (u + 1).toNat (m4 49) (m4 47 7) L ∧ gp_enc m4 L ∧ m4 47 14 = L.length ∧ gp_ok G z t O (u + 1 + 1) L ∧ gp_cur ci cj L ∧ gk_pk gk_K G z t ci cj m4 ∧ gx [0, 41, 42, 43, 44, 47, 49, 50, 51, 52, 53, 54, 55, 56, 57, 66, 67] m m4 ∧ (∀ y, y < 7 → m4 41 y = m 41 y) ∧ (∀ y, y ≠ 7 → y ≠ 14 → m4 47 y = m 47 y) ∧ m4 41 9 ≤ m 41 9 + (u + 1), fun m4 h => ⟨by omega, h, by (try dsimp only); omega⟩, ?_⟩
    obtain ⟨n, i, j, B, lv, kk⟩ := nd
    have en1 : m2 50 L.length = n := en1
    rw [en1]
    refine ⟨fun c => ?_, fun c => ?_⟩
    · -- a letter
      refine ⟨by omega, by omega, u0, by omega, fin _ n (m2 47 7) L ci cj (fun x xu => ?_) ?_ ?_ ⟨fun _ => ⟨rfl, rfl, rfl⟩, fun y => absurd c y⟩ ?_ ?_ (gp_ok_W (by omega) L okL) cur.2 ?_ ?_ ?_ ?_ ?_⟩
      · rw [gh_u_i xu, gh_u_a (by decide)]
      · rw [gh_u_s]
      · rw [gh_u_a (by decide), gh_u_i (by decide)]
      · exact gp_enc_cg L (fun a x a0 a1 x0 x1 => by rw [gh_u_a (by omega), gh_u_a (by omega)]) en3
      · rw [gh_u_a (by decide), gh_u_s]
      · exact gk_pk_x (S := [47, 49]) (gx_u (gx_u gx_rf (by decide)) (by decide)) (by decide) pk2
      · exact gx_u (gx_u hx2 (by decide)) (by decide)
      · intro y y7
        rw [gh_u_a (by decide), gh_u_a (by decide)]
        exact o41 y y7
      · intro y a b
        rw [gh_u_a (by decide), gh_u_i b]
        exact o47 y a b
      · rw [gh_u_a (by decide), gh_u_a (by decide)]
        omega
    -- a name
    have okn' := okn.2 c
    have c' : ¬ n < 0 := c
    have ok1 : n < gm_N G := okn'.1
    have ok2 : 0 ≤ i := okn'.2.1
    have ok3 : i ≤ j := okn'.2.2.1
    have ok4 : j ≤ z := okn'.2.2.2.1
    have ok5 : gbs 8 B := okn'.2.2.2.2.1
    have ok6 : ¬ gb B n := okn'.2.2.2.2.2.1
    have ok7 : ∀ h, 0 ≤ h → h < gm_N G → gb B h → gb (O h) n := okn'.2.2.2.2.2.2.1
    have ok8 : 0 ≤ lv ∧ lv ≤ u + 1 := okn'.2.2.2.2.2.2.2.1
    have ok9 : 0 ≤ kk := okn'.2.2.2.2.2.2.2.2.1
    have ok10 : kk < gk_C G z t n i j (gb B) := okn'.2.2.2.2.2.2.2.2.2.1
    have ok11 : (L.length : Int) + 3 * (gk_rk i j (gb B) : Int) ≤ 240 := okn'.2.2.2.2.2.2.2.2.2.2
    have d5 := en2 c
    have d51 : m2 51 L.length = i := d5.1
    have d52 : m2 52 L.length = j := d5.2.1
    have d53 : m2 53 L.length = B := d5.2.2.1
    have d54 : m2 54 L.length = lv := d5.2.2.2.1
    have d55 : m2 55 L.length = kk := d5.2.2.2.2
    have cur1 : 0 ≤ n → i < j → gp_a0 L ∧ (B ≠ 0 → i = ci ∧ j = cj) := cur.1
    have cur2 : gp_cur ci cj L := cur.2
    clear okn okn' en2 d5
    have ux : gx [47] m2 (gh_u m2 47 14 (L.length : Int)) := gx_one _ _ _ _
    refine ⟨by omega, by omega, ?_⟩
    refine gp_ruleOf (i := i) (j := j) (B := B) (k := kk) (ci := ci) (cj := cj) (A := gh_ior_f B (gh_ishl_f 1 n)) hG fa (gk_cx_x ux (by decide) cx2) (gk_pk_x ux (by decide) pk2) (by omega) (by omega) (by rw [ux 51 (by decide)]; exact d51) (by rw [ux 52 (by decide)]; exact d52) (by rw [ux 53 (by decide)]; exact d53) (by rw [ux 55 (by decide)]; exact d55) (by omega) ok1 ok2 ok3 ok4 ok5 ok6 ok7 rfl (fun y => (cur1 (by omega) y).2) ok9 ok10 (by rw [ux 41 (by decide)]; omega) ?_
    intro r k2 ma ci2 cj2 ru hxa oa pka ca cb ta h55 h55x tab
    obtain ⟨r0, r1, ro, rk, k20, k21⟩ := ru
    refine ⟨fun y => absurd y (by omega), fun _ => ?_⟩
    have a14 : ma 47 14 = L.length := by
      rw [hxa 47 (by decide), gh_u_s]
    have a7 : ma 47 7 = m2 47 7 := by
      rw [hxa 47 (by decide), gh_u_i (by decide)]
    have a54 : ma 54 L.length = lv := by
      rw [hxa 54 (by decide), ux 54 (by decide)]
      exact d54
    rw [a14, a7, a54]
    refine ⟨u0, by omega, by omega, by omega, ?_⟩
    obtain ⟨mb, hmb⟩ : ∃ mb, mb = gh_u (gh_u ma 49 u r) 47 7 (max (m2 47 7) lv) := ⟨_, rfl⟩
    rw [← hmb]
    have bx : gx [47, 49] ma mb := by
      rw [hmb]
      exact gx_u (gx_u gx_rf (by decide)) (by decide)
    have b47 : ∀ y, y ≠ 7 → mb 47 y = ma 47 y := fun y a => by
      rw [hmb, gh_u_i a, gh_u_a (by decide)]
    have b7 : mb 47 7 = max (m2 47 7) lv := by
      rw [hmb, gh_u_s]
    have b49 : ∀ x, x ≠ u → mb 49 x = m2 49 x := fun x xu => by
      rw [hmb, gh_u_a (by decide), gh_u_i xu, hxa 49 (by decide), ux 49 (by decide)]
    have b49u : mb 49 u = r := by
      rw [hmb, gh_u_a (by decide), gh_u_s]
    clear hmb
    have xmb : gx [0, 41, 42, 43, 44, 47, 49, 55, 66, 67] m2 mb := gx_t (gx_t (gx_sub ux (by decide)) (gx_sub hxa (by decide))) (gx_sub bx (by decide))
    have s1 := (hG.2.2.2.2.1 r r0 r1).2.2.1
    have s4 := (hG.2.2.2.2.1 r r0 r1).2.2.2.1
    refine gp_shareOut (n := n) (i := i) (j := j) (B := B) (k := k2) (ci := ci2) (cj := cj2) (A := gh_ior_f B (gh_ishl_f 1 n)) hG fa (gk_cx_x xmb (by decide) cx2) (gk_pk_x bx (by decide) pka) (by omega) (by omega) (by rw [xmb 50 (by decide)]; exact en1) (by rw [xmb 51 (by decide)]; exact d51) (by rw [xmb 52 (by decide)]; exact d52) (by rw [xmb 53 (by decide)]; exact d53) (by rw [bx 55 (by decide)]; exact h55x) (by omega) ok1 ok2 ok3 ok4 ok5 ok7 rfl r0 r1 ro k20 k21 ca (fun d p a b c e f => by rw [bx 43 (by decide)]; exact tab d p a b c e f) ?_
    intro mc p l ff sh
    obtain ⟨xc, oc, pkc, tbc⟩ := ff
    have xmc : gx [0, 41, 42, 43, 44, 47, 49, 55, 56, 57, 66, 67] m2 mc := gx_t (gx_sub xmb (by decide)) (gx_sub xc (by decide))
    have c14 : mc 47 14 = L.length := by
      rw [xc 47 (by decide), b47 14 (by decide)]
      exact a14
    rw [c14]
    have gA : gb (gh_ior_f B (gh_ishl_f 1 n)) = gb (gh_ior_f B (gh_ishl_f 1 n)) := rfl
    have enc : gp_enc mc L := gp_enc_cg L (fun a x a0 a1 x0 x1 => by
      have e1 : mc a = mb a := xc a (by simp only [List.mem_cons, List.not_mem_nil, or_false]; omega)
      have e2 : mb a = ma a := bx a (by simp only [List.mem_cons, List.not_mem_nil, or_false]; omega)
      rw [e1, e2]
      by_cases q : a = 55
      · rw [q, h55 x (by omega), ux 55 (by decide)]
      · rw [hxa a (by simp only [List.mem_cons, List.not_mem_nil, or_false]; omega), ux a (by simp only [List.mem_cons, List.not_mem_nil, or_false]; omega)]) en3
    refine gp_pushParts (n := n) (i := i) (j := j) (B := B) (k := k2) (lv := lv) (p := p) (l := l) (L := L) (A := gh_ior_f B (gh_ishl_f 1 n)) hG (gk_cx_x xmc (by decide) cx2) (by omega) rfl c14 (by rw [xmc 50 (by decide)]; exact en1) (by rw [xmc 51 (by decide)]; exact d51) (by rw [xmc 52 (by decide)]; exact d52) (by rw [xmc 53 (by decide)]; exact d53) (by rw [xmc 54 (by decide)]; exact d54) ok8.1 (by omega) ok2 ok3 ok4 rfl r0 r1 enc len sh ?_
    intro md xd od d14 end_
    obtain ⟨p9, l9, g1, g2⟩ := gp_sh_kids (lv := lv + 1) s1 sh (gm_s G r).toNat (by omega)
    have ez : (gm_s G r - ((gm_s G r).toNat : Int)).toNat = 0 := by omega
    have ez2 : gm_s G r - ((gm_s G r).toNat : Int) = 0 := by omega
    rw [ez] at g1
    rw [g1.1, g1.2] at g2
    obtain ⟨h1, h2⟩ := gp_kids_ok hG fa z8 (fun x a b => by
      have lt := cx2.2.1.2.2 x a (by rw [cx2.2.2.2.2.1]; exact b)
      rw [cx2.2.2.2.2.2.1] at lt
      exact ⟨lt.1, by omega⟩) r0 r1 ro (by omega) ok1 ok2 ok3 ok4 ok5 ok6 ok7 rfl (by omega : 0 ≤ lv + 1) (by omega : lv + 1 ≤ u + 1 + 1) ok11 (gp_ok_W (by omega) L okL) _ i k2 _ (by omega) (Int.le_refl _) ok3 (by rw [ez2]; rfl) g2
    refine fin md r (max (m2 47 7) lv) _ ci2 cj2 (fun x xu => ?_) ?_ ?_ ⟨fun y => absurd y c', fun _ => ⟨rfl, k2, _, ⟨r0, r1, ro, rk, k20, k21⟩, g2, rfl⟩⟩ end_ ?_ h1 ?_ ?_ ?_ ?_ ?_ ?_
    · rw [xd 49 (by decide), xc 49 (by decide)]
      exact b49 x xu
    · rw [xd 49 (by decide), xc 49 (by decide)]
      exact b49u
    · rw [od 7 (by decide), xc 47 (by decide)]
      exact b7
    · rw [d14, h2]
      omega
    · by_cases q : i < j
      · obtain ⟨e1, e2⟩ := ca q
        rw [e1, e2]
        exact (gp_kids_cur q (cur1 (by omega) q).1 _ i k2 _ (Int.le_refl _) g2).1
      · obtain ⟨e1, e2⟩ := cb q
        rw [e1, e2]
        have e3 : j = i := by omega
        rw [e3] at g2 ⊢
        exact gp_kids_cur2 cur2 _ i k2 _ (Int.le_refl _) g2
    · exact gk_pk_x xd (by decide) pkc
    · exact gx_t hx2 (gx_t (gx_sub xmc (by decide)) (gx_sub xd (by decide)))
    · intro y y7
      rw [xd 41 (by decide), oc y (by omega) (by omega), bx 41 (by decide), oa y y7, ux 41 (by decide)]
      exact o41 y y7
    · intro y a b
      rw [od y b, xc 47 (by decide), b47 y a, hxa 47 (by decide), gh_u_i b]
      exact o47 y a b
    · rw [xd 41 (by decide), oc 9 (by decide) (by decide), bx 41 (by decide)]
      have : gh_u m2 47 14 (L.length : Int) 41 9 = m2 41 9 := by rw [ux 41 (by decide)]
      omega

