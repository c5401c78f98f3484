/-! THE PROPER GRAMMAR: the model makes texts by it -/
/-- the first d parts of a row -/
theorem gy_rowMakes {G : gm_G} {z : Int} {t : Int → Int} {m : gh_M} {Q : Int → Prop} {a i j : Int} (hG : gm_ok G) (ht : gd_t m z t) (a0 : 0 ≤ a) (a1 : a < 320) (sz : 0 ≤ m 89 a ∧ m 89 a ≤ 4) (ok : gy_ok G (gy_mr m a)) (i0 : 0 ≤ i) (ij : i ≤ j) (jz : j ≤ z) (H : ∀ v, (v = 0 ∨ v = 1) → (v = 1 ↔ gy_mk z t (fun n p q => i ≤ p ∧ p < q ∧ q ≤ j ∧ 0 ≤ n ∧ n < gm_N G ∧ m 104 (81 * n + 9 * p + q) ≠ 0) (gy_mr m a) i j) → Q v) : w_Model_rowMakes a i j m Q := by
  have hN := hG.2.1
  have z8 := ht.2.2.1
  have e96 := ht.2.2.2
  obtain ⟨M, hM⟩ : ∃ M : Int → Int → Int → Prop, M = fun n p q => i ≤ p ∧ p < q ∧ q ≤ j ∧ 0 ≤ n ∧ n < gm_N G ∧ m 104 (81 * n + 9 * p + q) ≠ 0 := ⟨_, rfl⟩
  rw [← hM] at H
  have Mj : ∀ n p q, M n p q → q ≤ z := fun n p q y => by
    rw [hM] at y
    omega
  intro v4 hv4
  have b1 : gbs 9 (gh_ishl_f 1 i) := gbs_one i0 (by omega) (by decide)
  refine ⟨fun r d => 0 ≤ d ∧ d ≤ m 89 a ∧ gbs 9 r ∧ ∀ q, 0 ≤ q → (gb r q ↔ q ≤ j ∧ gy_mk z t M (gy_pre (m 90) (4 * a) d.toNat) i q), fun r d => (10 - d).toNat, ⟨Int.le_refl _, sz.1, by rw [hv4]; exact b1, fun q q0 => ?_⟩, ?_⟩
  · rw [hv4, gb_ishl1 i0 (by omega) q0]
    constructor
    · intro y
      rw [y]
      exact ⟨ij, rfl⟩
    · rintro ⟨_, y⟩
      exact (y : i = q).symm
  rintro r d ⟨d0, d1, gr, hr⟩
  have ed : ((d.toNat : Nat) : Int) = d := by omega
  unfold f_Model_rowMakes_8
  refine ⟨a0, a1, fun c => ?_, fun c => ?_⟩
  rotate_left
  · have e : d = m 89 a := by omega
    rw [e] at hr
    have tst := gb_test1 (x := r) (i := j) (gbs_le gr (by decide)) (by omega) (by omega)
    refine H _ gh_ib01 ?_
    have hj := hr j (by omega)
    by_cases u : gh_iand_f (gh_ishr_f r j) 1 = 1
    · rw [if_pos u]
      exact ⟨fun _ => (hj.mp (tst.mp u)).2, fun _ => rfl⟩
    · rw [if_neg u]
      exact ⟨fun y => absurd y (by decide), fun y => absurd (tst.mpr (hj.mpr ⟨Int.le_refl _, y⟩)) u⟩
  have okp := ok (m 90 (4 * a + d)) ((gy_mr_mem sz.1).mpr ⟨d, d0, c, rfl⟩)
  refine ⟨by omega, by omega, by omega, by omega, ?_⟩
  intro v6 hv6
  have ok6 : (-gm_N G ≤ v6 ∧ v6 < 0) ∨ (0 < v6 ∧ v6 < 2 ^ 26) := by
    rw [hv6]
    exact okp
  -- one part more
  have es : (d + 1).toNat = d.toNat + 1 := by omega
  have nxt : ∀ q, gy_mk z t M (gy_pre (m 90) (4 * a) (d + 1).toNat) i q ↔ ∃ p, gy_mk z t M (gy_pre (m 90) (4 * a) d.toNat) i p ∧ p < q ∧ ((v6 < 0 ∧ M (-1 - v6) p q) ∨ (0 < v6 ∧ q = p + 1 ∧ p < z ∧ gb v6 (t p))) := fun q => by
    rw [es]
    show gy_mk z t M (m 90 (4 * a + ((d.toNat : Nat) : Int)) :: gy_pre (m 90) (4 * a) d.toNat) i q ↔ _
    rw [ed, ← hv6]
    exact Iff.rfl
  refine ⟨fun s p => i ≤ p ∧ p ≤ j ∧ gbs 9 s ∧ ∀ q, 0 ≤ q → (gb s q ↔ q ≤ j ∧ ∃ x, x < p ∧ gy_mk z t M (gy_pre (m 90) (4 * a) d.toNat) i x ∧ x < q ∧ ((v6 < 0 ∧ M (-1 - v6) x q) ∨ (0 < v6 ∧ q = x + 1 ∧ x < z ∧ gb v6 (t x)))), fun s p => (20 - p).toNat, ⟨Int.le_refl _, ij, gbs_0 _, fun q q0 => ⟨fun y => absurd y (gb_0 q), fun ⟨_, x, x1, y, _⟩ => ?_⟩⟩, ?_⟩
  · have := (gy_mk_rng Mj _ _ _ y).1
    omega
  rintro s p ⟨p0, p1, gs, hs⟩
  unfold f_Model_rowMakes_38
  refine ⟨fun c2 => ⟨by omega, ?_⟩, fun c2 => ⟨by omega, ⟨by omega, by omega, gs, fun q q0 => ?_⟩, by (try dsimp only); omega⟩⟩
  rotate_left
  · rw [hs q q0, nxt q]
    constructor
    · rintro ⟨y1, x, x1, y⟩
      exact ⟨y1, x, y⟩
    · rintro ⟨y1, x, y2, y3, y4⟩
      exact ⟨y1, x, by omega, y2, y3, y4⟩
  intro v9 hv9
  have tp := gb_test1 (x := r) (i := p) (gbs_le gr (by decide)) (by omega) (by omega)
  have rp := hr p (by omega)
  refine ⟨fun s2 q => p + 1 ≤ q ∧ q ≤ j + 1 ∧ gbs 9 s2 ∧ ∀ y, 0 ≤ y → (gb s2 y ↔ gb s y ∨ (y < q ∧ y ≤ j ∧ gy_mk z t M (gy_pre (m 90) (4 * a) d.toNat) i p ∧ p < y ∧ ((v6 < 0 ∧ M (-1 - v6) p y) ∨ (0 < v6 ∧ y = p + 1 ∧ p < z ∧ gb v6 (t p))))), fun s2 q => (20 - q).toNat, ⟨by omega, by omega, gs, fun y _ => ⟨Or.inl, fun w => w.elim id (fun w => by omega)⟩⟩, ?_⟩
  rintro s2 q ⟨q0, q1, gs2, hs2⟩
  unfold f_Model_rowMakes_50
  refine ⟨fun s3 => gbs 9 s3 ∧ ∀ y, 0 ≤ y → (gb s3 y ↔ gb s y ∨ (y ≤ j ∧ gy_mk z t M (gy_pre (m 90) (4 * a) d.toNat) i p ∧ p < y ∧ ((v6 < 0 ∧ M (-1 - v6) p y) ∨ (0 < v6 ∧ y = p + 1 ∧ p < z ∧ gb v6 (t p))))), fun s3 w => ⟨by omega, ⟨by omega, by omega, w.1, fun y y0 => ?_⟩, by (try dsimp only); omega⟩, fun t1 => ⟨⟨fun _ => ⟨by omega, by omega, by omega, by omega, by omega, by omega, by omega⟩, fun _ => ⟨by omega, fun _ => ⟨by omega, by omega⟩⟩⟩, ?_⟩, fun t1 => ⟨gs2, fun y y0 => ?_⟩⟩
  · rw [w.2 y y0, hs y y0]
    constructor
    · rintro (⟨y1, x, x1, y2⟩ | ⟨y1, y2⟩)
      · exact ⟨y1, x, by omega, y2⟩
      · exact ⟨y1, p, by omega, y2⟩
    · rintro ⟨y1, x, x1, y2⟩
      by_cases u : x = p
      · rw [u] at y2
        exact Or.inr ⟨y1, y2⟩
      · exact Or.inl ⟨y1, x, by omega, y2⟩
  · have inp := rp.mp (tp.mp t1.2)
    have et := e96 p (by omega) (by omega)
    have q1' : 0 ≤ q := by omega
    intro v10 hv10 s3 hs3
    have key : v10 ≠ 0 ↔ ((v6 < 0 ∧ M (-1 - v6) p q) ∨ (0 < v6 ∧ q = p + 1 ∧ p < z ∧ gb v6 (t p))) := by
      rw [hv10]
      by_cases u : v6 ≤ 0
      · rw [if_pos u]
        constructor
        · intro y
          refine Or.inl ⟨by omega, ?_⟩
          rw [hM]
          exact ⟨p0, by omega, t1.1, by omega, by omega, y⟩
        · rintro (⟨_, y⟩ | ⟨y, _⟩)
          · rw [hM] at y
            exact y.2.2.2.2.2
          · omega
      · rw [if_neg u, et.1]
        have tst := gb_test1 (x := v6) (i := t p) ⟨by omega, by omega⟩ et.2.1 (by omega)
        by_cases w : q = p + 1
        · rw [if_pos w]
          by_cases w2 : gh_iand_f (gh_ishr_f v6 (t p)) 1 = 1
          · rw [if_pos w2]
            exact ⟨fun _ => Or.inr ⟨by omega, w, by omega, tst.mp w2⟩, fun _ => by decide⟩
          · rw [if_neg w2]
            exact ⟨fun y => absurd rfl y, fun y => absurd (tst.mpr (y.elim (fun y => by omega) (fun y => y.2.2.2))) w2⟩
        · rw [if_neg w]
          exact ⟨fun y => absurd rfl y, fun y => y.elim (fun y => by omega) (fun y => absurd y.2.1 w)⟩
    have bit : gbs 9 (if v10 = 0 then 0 else gh_ishl_f 1 q) ∧ ∀ y, 0 ≤ y → (gb (if v10 = 0 then 0 else gh_ishl_f 1 q) y ↔ y = q ∧ v10 ≠ 0) := by
      by_cases u : v10 = 0
      · rw [if_pos u]
        exact ⟨gbs_0 _, fun y _ => ⟨fun w => absurd w (gb_0 y), fun w => absurd u w.2⟩⟩
      · rw [if_neg u]
        refine ⟨gbs_one q1' (by omega) (by decide), fun y y0 => ?_⟩
        rw [gb_ishl1 q1' (by omega) y0]
        exact ⟨fun w => ⟨w, u⟩, fun w => w.1⟩
    refine ⟨by omega, ⟨by omega, by omega, by rw [hs3]; exact gbs_or (by decide) gs2 bit.1, fun y y0 => ?_⟩, by (try dsimp only); omega⟩
    rw [hs3, gb_ior (by decide) gs2 bit.1, hs2 y y0, bit.2 y y0, key]
    constructor
    · rintro ((w | w) | w)
      · exact Or.inl w
      · exact Or.inr ⟨by omega, w.2⟩
      · rw [w.1]
        exact Or.inr ⟨by omega, t1.1, inp.2, by omega, w.2⟩
    · rintro (w | ⟨w1, w2, w3, w4, w5⟩)
      · exact Or.inl (Or.inl w)
      · by_cases u : y = q
        · rw [u] at w5
          exact Or.inr ⟨u, w5⟩
        · exact Or.inl (Or.inr ⟨by omega, w2, w3, w4, w5⟩)
  · rw [hs2 y y0]
    constructor
    · rintro (w | w)
      · exact Or.inl w
      · exact Or.inr w.2
    · rintro (w | w)
      · exact Or.inl w
      · refine Or.inr ⟨?_, w⟩
        by_cases u : q ≤ j
        · exact absurd ⟨u, tp.mpr (rp.mpr ⟨by omega, w.2.1⟩)⟩ t1
        · omega
theorem gy_mproperly {G : gm_G} {E : Int} {U V : Int → Prop} {z : Int} {t : Int → Int} {m : gh_M} {Q : Int → gh_M → Prop} {k : Int} (hG : gm_ok G) (hD : gm_D m G) (ht : gd_t m z t) (h24 : m 63 24 ≠ 0) (k0 : 0 ≤ k) (kz : k ≤ z) (hp : p_Model_isPlace k m) (mh : gy_mh G (gy_P G E U V) m) (H : ∀ m2 v, gx [104] m m2 → (v = 0 ∨ v = 1) → (v = 1 ↔ gy_pr (gm_N G) (gy_hs G E U V) 0 ∧ gy_Q (gm_N G) z t (gy_hs G E U V) 0 0 k) → Q v m2) : w_Model_properly k m Q := by
  have hN0 := hG.1
  have hN := hG.2.1
  have z8 := ht.2.2.1
  obtain ⟨⟨q0, q1⟩, each, inj, b01, snd, cmp⟩ := mh
  obtain ⟨HS, hHS⟩ : ∃ HS, HS = gy_hs G E U V := ⟨_, rfl⟩
  rw [← hHS] at H
  have ne : ∀ n L, HS n L → L ≠ [] := fun n L y => by
    rw [hHS] at y
    exact gy_hs_ne y
  obtain ⟨T, hT⟩ : ∃ T : Int → Int → Int → Prop, T = fun n i j => gy_pr (gm_N G) HS n ∧ gy_Q (gm_N G) z t HS n i j := ⟨_, rfl⟩
  have Tr : ∀ n i j, T n i j → 0 ≤ n ∧ n < gm_N G ∧ 0 ≤ i ∧ i < j ∧ j ≤ z := fun n i j y => by
    rw [hT] at y
    exact gy_Q_rng ne y.2
  -- a name by its rows
  have rowT : ∀ n i j, 0 ≤ n → n < gm_N G → 0 ≤ i → i ≤ z → (T n i j ↔ ∃ L, gy_P G E U V n L ∧ gy_mk z t T L i j) := by
    intro n i j n0 n1 i0 iz
    constructor
    · intro y
      rw [hT] at y
      obtain ⟨y1, y2⟩ := y
      obtain ⟨L, _, _, hh, _, _, w⟩ := gy_Q_inv y2
      have ed : gy_ed (gm_N G) HS L := gy_mk_all (M := gy_Q (gm_N G) z t HS) (X := gy_es (gm_N G) HS) (fun _ _ _ y => gy_Q_es y) L i j w
      refine ⟨L, ⟨by rw [hHS] at hh; exact hh, by rw [hHS] at y1; exact y1, by rw [hHS] at ed; exact ed⟩, ?_⟩
      have all : ∀ (L2 : List Int) (j : Int), (∀ p, p ∈ L2 → p ∈ L) → gy_mk z t (gy_Q (gm_N G) z t HS) L2 i j → gy_mk z t T L2 i j := by
        intro L2
        induction L2 with
        | nil => exact fun j _ w => w
        | cons p L2 ih =>
          rintro j sub ⟨q, a1, a2, a3⟩
          refine ⟨q, ih q (fun x hx => sub x (List.mem_cons_of_mem _ hx)) a1, a2, a3.imp (fun u => ⟨u.1, ?_⟩) id⟩
          rw [hT]
          exact ⟨gy_pr_s n0 n1 hh ed y1 (sub p List.mem_cons_self) u.1, u.2⟩
      exact all L j (fun _ u => u) w
    · rintro ⟨L, ⟨y1, y2, y3⟩, w⟩
      rw [← hHS] at y1 y2 y3
      rw [hT]
      refine ⟨y2, gy_Q_cl n0 n1 y1 i0 iz (gy_mk_mono (fun n i j u => ?_) L i j w)⟩
      rw [hT] at u
      exact u.2
  -- the rows with what narrower names make
  have narrow : ∀ (M : Int → Int → Int → Prop) (L : List Int) (i j : Int), ¬ gy_un L → (∀ n p q, M n p q → p < q) → (∀ n p q, i ≤ p → q ≤ j → q - p < j - i → (M n p q ↔ T n p q)) → (gy_mk z t M L i j ↔ gy_mk z t T L i j) := by
    intro M L i j nu lt eq
    -- all but the whole
    have step : ∀ (M1 M2 : Int → Int → Int → Prop), (∀ n p q, M1 n p q → p < q) → (∀ n p q, i ≤ p → q ≤ j → q - p < j - i → M1 n p q → M2 n p q) → ∀ (L2 : List Int) (q : Int), q < j → gy_mk z t M1 L2 i q → i ≤ q ∧ gy_mk z t M2 L2 i q := by
      intro M1 M2 lt1 eq1 L2
      induction L2 with
      | nil =>
        intro q _ w
        have e : i = q := w
        exact ⟨by omega, w⟩
      | cons p L2 ih =>
        rintro q qj ⟨x, a1, a2, a3⟩
        obtain ⟨ix, w⟩ := ih x (by omega) a1
        exact ⟨by omega, x, w, a2, a3.imp (fun u => ⟨u.1, eq1 _ _ _ ix (by omega) (by omega) u.2⟩) id⟩
    have one : ∀ (M1 M2 : Int → Int → Int → Prop), (∀ n p q, M1 n p q → p < q) → (∀ n p q, i ≤ p → q ≤ j → q - p < j - i → M1 n p q → M2 n p q) → gy_mk z t M1 L i j → gy_mk z t M2 L i j := by
      intro M1 M2 lt1 eq1 w
      cases L with
      | nil => exact w
      | cons p L2 =>
        obtain ⟨x, a1, a2, a3⟩ := w
        obtain ⟨ix, w2⟩ := step M1 M2 lt1 eq1 L2 x a2 a1
        refine ⟨x, w2, a2, a3.imp (fun u => ⟨u.1, ?_⟩) id⟩
        by_cases xi : x = i
        · -- a unit
          have e : L2 = [] := by
            cases L2 with
            | nil => rfl
            | cons p2 L3 =>
              obtain ⟨x2, b1, b2, _⟩ := a1
              have := (step M1 M2 lt1 eq1 L3 x2 (by omega) b1).1
              omega
          rw [e] at nu
          exact absurd ⟨p, rfl, u.1⟩ nu
        · exact eq1 _ _ _ ix (Int.le_refl _) (by omega) u.2
    exact ⟨one M T lt (fun n p q a b c => (eq n p q a b c).mp), one T M (fun n p q u => (Tr n p q u).2.2.2.1) (fun n p q a b c => (eq n p q a b c).mpr)⟩
  unfold w_Model_properly
  refine ⟨fun y => absurd y h24, fun _ => ⟨fun _ => ?_, fun y => absurd hp y⟩⟩
  refine ⟨fun x m1 => 0 ≤ x ∧ x ≤ 648 ∧ gx [104] m m1 ∧ ∀ y, 0 ≤ y → y < x → m1 104 y = 0, fun x m1 => (1000 - x).toNat, ⟨Int.le_refl _, by decide, gx_rf, fun y a b => by omega⟩, ?_⟩
  rintro x m1 ⟨x0, x1, hx1, hk⟩
  unfold f_Model_properly_25
  refine ⟨fun c => ⟨x0, by omega, by omega, ⟨by omega, by omega, gx_u hx1 (by decide), fun y y0 y1 => ?_⟩, by (try dsimp only); omega⟩, fun c => ?_⟩
  · by_cases u : y = x
    · rw [u, gh_u_s]
    · rw [gh_u_i u]
      exact hk y y0 (by omega)
  -- by their width
  refine ⟨fun w m2 => 1 ≤ w ∧ w ≤ k + 1 ∧ gx [104] m m2 ∧ ∀ n i j, 0 ≤ n → n < gm_N G → 0 ≤ i → i ≤ j → j ≤ k → (m2 104 (81 * n + 9 * i + j) = 0 ∨ m2 104 (81 * n + 9 * i + j) = 1) ∧ (m2 104 (81 * n + 9 * i + j) ≠ 0 ↔ j - i < w ∧ T n i j), fun w m2 => (20 - w).toNat, ⟨Int.le_refl _, by omega, hx1, fun n i j n0 n1 i0 ij jk => ?_⟩, ?_⟩
  · rw [hk _ (by omega) (by omega)]
    exact ⟨Or.inl rfl, fun y => absurd rfl y, fun y => by have := Tr n i j y.2; omega⟩
  clear hk hx1 c x0 x1
  rintro w m2 ⟨w0, w1, hx2, h2⟩
  unfold f_Model_properly_47
  refine ⟨fun c => ?_, fun c => ⟨by omega, by omega, ?_⟩⟩
  rotate_left
  · have h := h2 0 0 k (Int.le_refl _) (by omega) (Int.le_refl _) k0 (Int.le_refl _)
    have e : 81 * 0 + 9 * 0 + k = k := by omega
    rw [e] at h
    unfold p_Model_bit
    refine H m2 _ hx2 gh_ib01 ?_
    rw [hT] at h
    by_cases u : m2 104 k = 0
    · rw [if_neg (fun y => y u)]
      exact ⟨fun y => absurd y (by decide), fun y => absurd u (h.2.mpr ⟨by omega, y⟩)⟩
    · rw [if_pos u]
      exact ⟨fun _ => (h.2.mp u).2, fun _ => rfl⟩
  refine ⟨fun i m3 => 0 ≤ i ∧ i ≤ k - w + 1 ∧ gx [104] m m3 ∧ ∀ n i' j, 0 ≤ n → n < gm_N G → 0 ≤ i' → i' ≤ j → j ≤ k → (m3 104 (81 * n + 9 * i' + j) = 0 ∨ m3 104 (81 * n + 9 * i' + j) = 1) ∧ (m3 104 (81 * n + 9 * i' + j) ≠ 0 ↔ (j - i' < w ∨ (j - i' = w ∧ i' < i)) ∧ T n i' j), fun i m3 => (20 - i).toNat, ⟨Int.le_refl _, by omega, hx2, fun n i' j n0 n1 i0 ij jk => ⟨(h2 n i' j n0 n1 i0 ij jk).1, ?_⟩⟩, ?_⟩
  · rw [(h2 n i' j n0 n1 i0 ij jk).2]
    exact and_congr ⟨Or.inl, fun y => by omega⟩ Iff.rfl
  clear h2 hx2
  rintro i m3 ⟨i0, i1, hx3, h3⟩
  unfold f_Model_properly_54
  refine ⟨by omega, fun c2 => ?_, fun c2 => ⟨by omega, ⟨by omega, by omega, hx3, fun n i' j n0 n1 i0' ij jk => ⟨(h3 n i' j n0 n1 i0' ij jk).1, ?_⟩⟩, by (try dsimp only); omega⟩⟩
  rotate_left
  · rw [(h3 n i' j n0 n1 i0' ij jk).2]
    exact and_congr ⟨fun y => by omega, fun y => by omega⟩ Iff.rfl
  refine ⟨fun n m4 => 0 ≤ n ∧ n ≤ gm_N G ∧ gx [104] m m4 ∧ ∀ n' i' j, 0 ≤ n' → n' < gm_N G → 0 ≤ i' → i' ≤ j → j ≤ k → (m4 104 (81 * n' + 9 * i' + j) = 0 ∨ m4 104 (81 * n' + 9 * i' + j) = 1) ∧ (m4 104 (81 * n' + 9 * i' + j) ≠ 0 ↔ (j - i' < w ∨ (j - i' = w ∧ (i' < i ∨ (i' = i ∧ n' < n)))) ∧ T n' i' j), fun n m4 => (20 - n).toNat, ⟨Int.le_refl _, by omega, hx3, fun n' i' j n0 n1 i0' ij jk => ⟨(h3 n' i' j n0 n1 i0' ij jk).1, ?_⟩⟩, ?_⟩
  · rw [(h3 n' i' j n0 n1 i0' ij jk).2]
    exact and_congr ⟨fun y => by omega, fun y => by omega⟩ Iff.rfl
  clear h3 hx3
  rintro n m4 ⟨n0, n1, hx4, h4⟩
  have D4 := gm_D_x hx4 (by decide) hD
  have e63 : m4 63 = m 63 := hx4 63 (by decide)
  have t4 : gd_t m4 z t := by
    unfold gd_t
    rw [e63, hx4 96 (by decide)]
    exact ht
  have mr4 : ∀ a, gy_mr m4 a = gy_mr m a := fun a => gy_mr_cg (by rw [hx4 89 (by decide)]) (fun d _ _ => by rw [hx4 90 (by decide)])
  unfold f_Model_properly_64
  rw [D4.1]
  refine ⟨fun c3 => ?_, fun c3 => ⟨by omega, ⟨by omega, by omega, hx4, fun n' i' j n0' n1' i0' ij jk => ⟨(h4 n' i' j n0' n1' i0' ij jk).1, ?_⟩⟩, by (try dsimp only); omega⟩⟩
  rotate_left
  · rw [(h4 n' i' j n0' n1' i0' ij jk).2]
    exact and_congr ⟨fun y => by omega, fun y => by omega⟩ Iff.rfl
  -- one name
  have rows : ∀ a, 0 ≤ a → a < m 63 42 → m 92 (320 * n + a) ≠ 0 → (gy_mk z t (fun n p q => i ≤ p ∧ p < q ∧ q ≤ i + w ∧ 0 ≤ n ∧ n < gm_N G ∧ m4 104 (81 * n + 9 * p + q) ≠ 0) (gy_mr m a) i (i + w) ↔ gy_mk z t T (gy_mr m a) i (i + w)) := fun a a0 a1 y => by
    have P := (snd n a n0 (by omega) a0 (by omega) y).2.2
    refine narrow _ _ _ _ P.1.1 (fun n p q u => u.2.1) (fun n' p q ip qj lt => ?_)
    constructor
    · rintro ⟨u1, u2, u3, u4, u5, u6⟩
      exact ((h4 n' p q u4 u5 (by omega) (by omega) (by omega)).2.mp u6).2
    · intro u
      have rg := Tr n' p q u
      exact ⟨ip, rg.2.2.2.1, qj, rg.1, rg.2.1, (h4 n' p q rg.1 rg.2.1 (by omega) (by omega) (by omega)).2.mpr ⟨Or.inl (by omega), u⟩⟩
  refine ⟨fun v a => 0 ≤ a ∧ a ≤ m 63 42 ∧ (v = 0 ∨ v = 1) ∧ (v = 1 ↔ ∃ b, 0 ≤ b ∧ b < a ∧ m 92 (320 * n + b) ≠ 0 ∧ gy_mk z t T (gy_mr m b) i (i + w)), fun v a => (400 - a).toNat, ⟨Int.le_refl _, q0, Or.inl rfl, fun y => absurd y (by decide), fun ⟨b, b0, b1, _⟩ => by omega⟩, ?_⟩
  rintro v a ⟨a0, a1, v01, hv⟩
  unfold f_Model_properly_79
  rw [e63, hx4 92 (by decide)]
  refine ⟨fun v' => (v' = 0 ∨ v' = 1) ∧ (v' = 1 ↔ T n i (i + w)), fun v' y => ⟨by omega, by omega, by omega, by omega, by omega, by omega, by omega, y.1, by omega, ⟨by omega, by omega, gx_u hx4 (by decide), fun n' i' j n0' n1' i0' ij jk => ?_⟩, by (try dsimp only); omega⟩, fun t1 => ⟨by omega, by omega, by omega, by omega, fun v' => (v' = 0 ∨ v' = 1) ∧ (v' = 1 ↔ ∃ b, 0 ≤ b ∧ b < a + 1 ∧ m 92 (320 * n + b) ≠ 0 ∧ gy_mk z t T (gy_mr m b) i (i + w)), fun v' y => ⟨by omega, ⟨by omega, by omega, y⟩, by (try dsimp only); omega⟩, ¬ (m 92 (320 * n + a) ≠ 0 ∧ gy_mk z t T (gy_mr m a) i (i + w)), fun y => ⟨Or.inl rfl, fun u => absurd u (by decide), fun ⟨b, b0, b1, b2⟩ => ?_⟩, fun u y => y.1 u, fun u => ⟨by omega, ?_⟩⟩, fun t1 => ⟨v01, ?_⟩⟩
  · have ix : 81 * n + 9 * i + i + w = 81 * n + 9 * i + (i + w) := by omega
    rw [ix]
    by_cases u : 81 * n' + 9 * i' + j = 81 * n + 9 * i + (i + w)
    · have u1 : n' = n := by omega
      have u2 : i' = i := by omega
      have u3 : j = i + w := by omega
      rw [u, gh_u_s, u1, u2, u3]
      refine ⟨y.1, fun z1 => ⟨Or.inr (by omega), y.2.mp (by omega)⟩, fun z1 => ?_⟩
      have := y.2.mpr z1.2
      omega
    · rw [gh_u_i u]
      refine ⟨(h4 n' i' j n0' n1' i0' ij jk).1, ?_⟩
      rw [(h4 n' i' j n0' n1' i0' ij jk).2]
      refine and_congr ⟨fun y => by omega, fun y => ?_⟩ Iff.rfl
      rcases y with y | ⟨y1, y2 | ⟨y2, y3⟩⟩
      · exact Or.inl y
      · exact Or.inr ⟨y1, Or.inl y2⟩
      · refine Or.inr ⟨y1, Or.inr ⟨y2, ?_⟩⟩
        rw [y2] at u y1
        omega
  · by_cases z1 : b = a
    · rw [z1] at b2
      exact absurd b2 y
    · have := hv.mpr ⟨b, b0, by omega, b2⟩
      omega
  · refine gy_rowMakes hG t4 a0 (by omega) (by rw [hx4 89 (by decide)]; exact (each a a0 t1.1).1) (by rw [mr4]; exact (each a a0 t1.1).2) i0 (by omega) (by omega) (fun v' v01' hv' => ?_)
    rw [mr4, rows a a0 t1.1 u] at hv'
    refine ⟨fun z1 y => ?_, fun z1 => ⟨Or.inr rfl, fun _ => ⟨a, a0, by omega, u, hv'.mp (by omega)⟩, fun _ => rfl⟩⟩
    have := hv'.mpr y.2
    omega
  · rw [hv, rowT n i (i + w) n0 c3 i0 (by omega)]
    constructor
    · rintro ⟨b, b0, b1, b2, b3⟩
      exact ⟨_, (snd n b n0 (by omega) b0 (by omega) b2).2.2, b3⟩
    · rintro ⟨L, y1, y2⟩
      obtain ⟨b, b0, b1, b2, b3⟩ := cmp n L n0 c3 y1
      by_cases z1 : a < m 63 42
      · have v1 : v = 1 := by
          rcases v01 with q | q
          · exact absurd ⟨z1, q⟩ t1
          · exact q
        exact hv.mp v1
      · exact ⟨b, b0, by omega, b3, by rw [b2]; exact y2⟩
