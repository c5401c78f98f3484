/-! READING, ALL OF IT -/
theorem go_row_1 {T : Int → Int} {S : go_S} {b : Int} {ps : List Int} {a : Int} {k2 : go_K} {pl kd si e : Int} : ∀ R, R = go_row T S b ps a k2 pl kd si e → 0 ≤ R.1 ∧ R.1 ≤ 9 := by
  intro R hR
  unfold go_row at hR
  repeat' split at hR
  all_goals
    rw [hR]
    refine ⟨?_, ?_⟩
    all_goals
      (try dsimp only)
      decide
theorem go_pr {n : Int} {S : go_S} (h : 0 ≤ n ∧ n ≤ 9) : 0 ≤ (n, S).1 ∧ (n, S).1 ≤ 9 := h
theorem go_act_1 {T : Int → Int} {c pl kd si e : Int} {S : go_S} : 0 ≤ (go_act T c S pl kd si e).1 ∧ (go_act T c S pl kd si e).1 ≤ 9 := by
  unfold go_act
  by_cases k0 : kd = 0
  · rw [if_pos k0]
    exact go_pr (by decide)
  rw [if_neg k0]
  by_cases s0 : S.1.1 = 0
  · rw [if_pos s0]
    by_cases k2 : kd = 2
    · rw [if_pos k2]
      by_cases hs : gr_has T c S.1.2.1 S.2.1.1 pl
      · rw [if_pos hs]
        exact go_pr (by decide)
      rw [if_neg hs]
      by_cases n8 : S.1.2.1 + S.1.2.2.1 = 8
      · rw [if_pos n8]
        exact go_pr (by decide)
      rw [if_neg n8]
      exact go_pr (by decide)
    · rw [if_neg k2]
      exact go_pr (by decide)
  rw [if_neg s0]
  by_cases s1 : S.1.1 = 1
  · rw [if_pos s1]
    by_cases c5 : kd = 5 ∧ si = 58
    · rw [if_pos c5]
      exact go_pr (by decide)
    · rw [if_neg c5]
      exact go_pr (by decide)
  rw [if_neg s1]
  obtain ⟨s1, s3, sk⟩ := S
  cases sk with
  | nil => exact go_pr (by decide)
  | cons x k2 =>
    obtain ⟨b, ps, a⟩ := x
    exact go_row_1 _ rfl
theorem go_out_1 {T : Int → Int} {c f pl : Int} {S2 : go_S} : ∀ (n : Nat) (b : Int) (S : go_S), go_out T c n b S f pl S2 → 0 ≤ f ∧ f ≤ 9
  | 0, _, _, h => False.elim h
  | n + 1, b, S, ⟨p, kd, si, e, h1, h2⟩ => by
    rcases h2 with ⟨x1, x2, x3, x4⟩ | ⟨x1, x2, x3, x4, x5⟩ | ⟨x1, x2, x3⟩
    · omega
    · rw [x3]
      exact go_act_1
    · exact go_out_1 n e _ x3
theorem go_res_1 {T : Int → Int} {c f pl : Int} {S : go_S} (h : go_res T c f pl S) : 0 ≤ f ∧ f ≤ 9 ∧ (f = 0 → pl = -1) := by
  obtain ⟨N, f1, p1, o, h⟩ := h
  have := go_out_1 N 0 go_S0 o
  rcases h with ⟨a1, a2, a3⟩ | ⟨a1, a2, x, a3, a4⟩ | ⟨a1, a2, a3, a4⟩
  · omega
  · omega
  · omega
theorem gl_by {a : Nat} (ha : a < 2 ^ 31) (s : Nat) (hs : s < 32) : gh_iand_f (gh_ishr_f a s) 127 = ((a / 2 ^ s % 128 : Nat) : Int) := by
  rw [gb_shr ha hs]
  have h : a / 2 ^ s < 2 ^ 31 := Nat.lt_of_le_of_lt (Nat.div_le_self _ _) ha
  have e := gb_and (a := a / 2 ^ s) (b := 127) h
  have e2 : (((127 : Nat)) : Int) = 127 := rfl
  rw [e2] at e
  rw [e]
  have e3 : a / 2 ^ s &&& 127 = a / 2 ^ s % 128 := Nat.and_two_pow_sub_one_eq_mod (a / 2 ^ s) 7
  rw [e3]
theorem gl_nm_of {T : Int → Int} {c q d : Int} {m : gh_M} {n : Int} (h : gr_nm T c q d) (k : gr_kof T c q (m 18 n)) (e75 : m 75 n = d + 1) (e76 : ∀ k, 0 ≤ k → k ≤ d → m 76 (3 * n + k) = T (q + k)) : gl_nm m n := by
  have ek := gr_kof_u k ⟨d, h, rfl⟩
  have b := gr_nm_b h
  have d2 := h.2.2.2.2.1
  have q1 := h.2.2.1
  have q2 := h.2.2.2.1
  unfold gr_kf at ek
  obtain ⟨a, ha⟩ : ∃ a : Nat, (a : Int) = T q := ⟨(T q).toNat, by omega⟩
  obtain ⟨a1, ha1⟩ : ∃ a1 : Nat, (a1 : Int) = if 1 ≤ d then T (q + 1) else 0 := by
    by_cases u : 1 ≤ d
    · rw [if_pos u]
      exact ⟨(T (q + 1)).toNat, by have := b.2.2.1 u; omega⟩
    · rw [if_neg u]
      exact ⟨0, rfl⟩
  obtain ⟨a2, ha2⟩ : ∃ a2 : Nat, (a2 : Int) = if 2 ≤ d then T (q + 2) else 0 := by
    by_cases u : 2 ≤ d
    · rw [if_pos u]
      exact ⟨(T (q + 2)).toNat, by have := b.2.2.2 u; omega⟩
    · rw [if_neg u]
      exact ⟨0, rfl⟩
  have l0 : a < 128 := by omega
  have l1 : a1 < 128 := by
    by_cases u : 1 ≤ d
    · rw [if_pos u] at ha1
      have := b.2.2.1 u
      omega
    · rw [if_neg u] at ha1
      omega
  have l2 : a2 < 128 := by
    by_cases u : 2 ≤ d
    · rw [if_pos u] at ha2
      have := b.2.2.2 u
      omega
    · rw [if_neg u] at ha2
      omega
  have key : m 18 n = ((a + 128 * a1 + 16384 * a2 : Nat) : Int) := by
    rw [ek]
    by_cases u : 1 ≤ d
    · by_cases v : 2 ≤ d
      · rw [if_pos u] at ha1 ⊢
        rw [if_pos v] at ha2 ⊢
        omega
      · rw [if_pos u] at ha1 ⊢
        rw [if_neg v] at ha2 ⊢
        omega
    · rw [if_neg u] at ha1 ⊢
      rw [if_neg (by omega)] at ha2 ⊢
      omega
  refine ⟨by omega, fun k k0 k3 => ?_⟩
  rw [key]
  have lt : a + 128 * a1 + 16384 * a2 < 2 ^ 31 := by
    have : (2 : Nat) ^ 31 = 2147483648 := by decide
    omega
  have ck : k = 0 ∨ k = 1 ∨ k = 2 := by omega
  rcases ck with c | c | c
  · rw [c]
    have e := gl_by lt 0 (by decide)
    have e0 : ((0 : Nat) : Int) = 7 * 0 := rfl
    rw [e0] at e
    rw [e]
    have e1 : (a + 128 * a1 + 16384 * a2) / 2 ^ 0 % 128 = a := by
      have : (2 : Nat) ^ 0 = 1 := rfl
      rw [this, Nat.div_one]
      omega
    rw [e1, ha]
    refine ⟨fun _ => ?_, fun z => by omega⟩
    rw [e76 0 (Int.le_refl _) (by omega), Int.add_zero]
    exact ⟨by omega, rfl⟩
  · rw [c]
    have e := gl_by lt 7 (by decide)
    have e0 : ((7 : Nat) : Int) = 7 * 1 := rfl
    rw [e0] at e
    rw [e]
    have e1 : (a + 128 * a1 + 16384 * a2) / 2 ^ 7 % 128 = a1 := by
      have : (2 : Nat) ^ 7 = 128 := by decide
      rw [this]
      omega
    rw [e1, ha1]
    refine ⟨fun z => ?_, fun z => by rw [if_neg (by omega)]⟩
    rw [if_pos (by omega), e76 1 (by decide) (by omega)]
    have := b.2.2.1 (by omega)
    exact ⟨by omega, rfl⟩
  · rw [c]
    have e := gl_by lt 14 (by decide)
    have e0 : ((14 : Nat) : Int) = 7 * 2 := rfl
    rw [e0] at e
    rw [e]
    have e1 : (a + 128 * a1 + 16384 * a2) / 2 ^ 14 % 128 = a2 := by
      have : (2 : Nat) ^ 14 = 16384 := by decide
      rw [this]
      omega
    rw [e1, ha2]
    refine ⟨fun z => ?_, fun z => by rw [if_neg (by omega)]⟩
    rw [if_pos (by omega), e76 2 (by decide) (by omega)]
    have := b.2.2.2 (by omega)
    exact ⟨by omega, rfl⟩
theorem gl_nm_0 {m : gh_M} {n : Int} (e18 : m 18 n = 0) (e75 : m 75 n = 0) : gl_nm m n := by
  refine ⟨by omega, fun k k0 k3 => ⟨fun z => by omega, fun _ => ?_⟩⟩
  rw [e18]
  have e := gl_by (a := 0) (by decide) (7 * k).toNat (by omega)
  have e2 : (((7 * k).toNat : Nat) : Int) = 7 * k := by omega
  rw [e2, Nat.zero_div] at e
  exact e
theorem gl_Spr_cg {G : gm_G} {B B2 : Int → Prop} {st st2 : Prop} {X X2 : Int → Prop} (hB : ∀ r, 0 ≤ r → r < gm_R G → (B r ↔ B2 r)) (hs : st ↔ st2) (hX : X = X2) (h : gm_Spr G B st X) : gm_Spr G B2 st2 X2 := by
  rw [← hX]
  obtain ⟨h1, h2, h3⟩ := h
  refine ⟨fun y => h1 (hs.mpr y), fun r d r0 r1 d0 d1 y => h2 r d r0 r1 d0 d1 ((hB r r0 r1).mpr y), fun Z z1 z2 => h3 Z (fun y => z1 (hs.mp y)) (fun r d r0 r1 d0 d1 y => z2 r d r0 r1 d0 d1 ((hB r r0 r1).mp y))⟩
theorem gl_mfind {G : gm_G} {m : gh_M} {Q : gh_M → Prop} (hG : gm_ok G) (hD : gm_D m G) (f : gm_fct G m) (f2 : gm_fct2 G m) (H : ∀ m2, gx [63, 82, 83, 84, 85, 86, 87, 88, 89, 90, 91, 92, 93, 94, 95] m m2 → (∀ y, y ≠ 42 → m2 63 y = m 63 y) → gl_mf G m2 → Q m2) : w_Model_findLeast m (fun _ m3358 => w_Model_findUseful m3358 (fun _ m3360 => w_Model_findFirst m3360 (fun _ m3362 => w_Model_findFollow m3362 (fun _ m3364 => w_Model_findCircles m3364 (fun _ m3366 => w_Model_findProper m3366 (fun _ m3368 => Q m3368)))))) := by
  have hN0 := hG.1
  have hN := hG.2.1
  have hR := hG.2.2.2.1
  obtain ⟨⟨e1, e2, e3⟩, ⟨l1, l2, l3⟩, ⟨f3, f3'⟩, ⟨fu, fu'⟩, ⟨f5, f5c, f5s⟩, ⟨f6, f6n, f6y⟩⟩ := f
  refine gm_mLeast hG hD (fun m1 x1 k1 k2 k3 => ?_)
  have hM : ∀ i, 0 ≤ i → i < gm_N G → m1 82 i = gm_mv (m 21 i) := fun i i0 i1 => gm_LM hG l1 l2 l3 k1 k2 k3 i0 i1
  have st0 : m1 82 0 < 1000000000 ↔ gb (m 20 2) 0 := by
    rw [hM 0 (Int.le_refl _) (by omega), f3' 0 (Int.le_refl _) (by omega)]
    unfold gm_mv
    by_cases u : m 21 0 < 16777216
    · rw [if_pos u]
      omega
    · rw [if_neg u]
      omega
  have hB : ∀ r, 0 ≤ r → r < gm_R G → (gb (m 20 5) r ↔ gm_lk 1000000000 G (m1 82) r 0 < 1000000000) := fun r r0 r1 => by
    rw [(gm_rowM hG l1 l2 l3 hM r0 r1 (Int.le_refl 0)).2, fu' r r0]
    unfold gm_mv
    by_cases u : gm_lr G (m 21) r 0 < 16777216
    · rw [if_pos u]
      exact ⟨fun _ => by omega, fun _ => ⟨r1, u⟩⟩
    · rw [if_neg u]
      exact ⟨fun z => absurd z.2 u, fun z => by omega⟩
  have hX : gm_Spr G (fun _ => True) True (gb (m 20 3)) := gl_Spr_cg (fun r r0 r1 => ⟨fun _ => trivial, fun _ => by
    have e : (1048575 : Int) = gh_ishl_f 1 20 - gh_ishl_f 1 0 := by decide
    rw [e]
    exact ((gz_mine (a := 0) (b := 20) (Int.le_refl _) (by decide) (by decide)).2.2 r r0).mpr ⟨r0, by omega⟩⟩) Iff.rfl rfl (gm_Spr_of hG f5 f5c f5s)
  have hY : gm_Spr G (fun r => gm_lk 1000000000 G (m1 82) r 0 < 1000000000) (m1 82 0 < 1000000000) (gb (m 20 4)) := by
    by_cases y : gb (m 20 2) 0
    · obtain ⟨y1, y2⟩ := f6y y
      exact gl_Spr_cg hB ⟨fun _ => st0.mpr y, fun _ => trivial⟩ rfl (gm_Spr_of hG f6 y1 y2)
    · refine gl_Spr_cg (B := gb (m 20 5)) (X := fun _ => False) hB ⟨False.elim, fun z => y (st0.mp z)⟩ ?_ gm_Spr_none
      funext x
      rw [f6n y]
      exact (eq_false (gb_0 x)).symm
  have hD1 := gm_D_x x1 (by decide) hD
  refine gm_mUseful hG hD1 k1 hX hY (fun m2 x2 mu => ?_)
  obtain ⟨u1, u2, u3⟩ := mu
  have x02 : gx [82, 83, 84, 85] m m2 := gx_t (gx_sub x1 (by decide)) (gx_sub x2 (by decide))
  have hD2 := gm_D_x x02 (by decide) hD
  have e82 : m2 82 = m1 82 := x2 82 (by decide)
  have hE : ∀ n, 0 ≤ n → n < gm_N G → (m2 82 n = 0 ↔ gb (m 20 1) n) := fun n n0 n1 => by
    rw [e82, gm_E_L hG e1 e2 e3 l1 l2 l3 n0 n1, hM n n0 n1]
    unfold gm_mv
    by_cases u : m 21 n < 16777216
    · rw [if_pos u]
    · rw [if_neg u]
      omega
  have hU : ∀ r, 0 ≤ r → r < gm_R G → (m2 83 r ≠ 0 ↔ gb (m 20 5) r) := fun r r0 r1 => by
    rw [u1 r r0 r1, hB r r0 r1]
    by_cases u : gm_lk 1000000000 G (m1 82) r 0 < 1000000000
    · rw [if_pos u]
      exact ⟨fun _ => u, fun _ => by decide⟩
    · rw [if_neg u]
      exact ⟨fun z => absurd rfl z, fun z => absurd z u⟩
  have hS : ∀ n, 0 ≤ n → n < gm_N G → (m2 85 n ≠ 0 ↔ gb (m 20 4) n) := fun n n0 n1 => (u3 n n0 n1).2
  obtain ⟨⟨t1, t2⟩, ⟨a1, a2, a3⟩, ⟨w1, w2, w3⟩, _⟩ := f2
  refine gm_mFirst hG hD2 hE hU a1 a2 a3 (fun m3 x3 h86 => ?_)
  have hD3 := gm_D_x x3 (by decide) hD2
  refine gm_mFollow hG hD3 (by rw [x3 82 (by decide)]; exact hE) (by rw [x3 83 (by decide)]; exact hU) (by rw [x3 85 (by decide)]; exact hS) h86 a1 w1 w2 w3 (fun m4 x4 h87 => ?_)
  have x24 : gx [86, 87] m2 m4 := gx_t (gx_sub x3 (by decide)) (gx_sub x4 (by decide))
  have hD4 := gm_D_x x24 (by decide) hD2
  refine gm_mCircles hG hD4 (by rw [x24 82 (by decide)]; exact hE) t1 t2 (fun m5 x5 h88 => ?_)
  have x25 : gx [86, 87, 88] m2 m5 := gx_t (gx_sub x24 (by decide)) (gx_sub x5 (by decide))
  have hD5 := gm_D_x x25 (by decide) hD2
  refine gy_findProper hG hD5 (by rw [x25 82 (by decide)]; exact hE) (by rw [x25 83 (by decide)]; exact hU) (by rw [x25 85 (by decide)]; exact hS) (fun m6 x6 o6 mh => ?_)
  have x06 : gx [63, 82, 83, 84, 85, 86, 87, 88, 89, 90, 91, 92, 93, 94, 95] m m6 := gx_t (gx_sub x02 (by decide)) (gx_t (gx_sub x25 (by decide)) (gx_sub x6 (by decide)))
  have x26 : gx [63, 86, 87, 88, 89, 90, 91, 92, 93, 94, 95] m2 m6 := gx_t (gx_sub x25 (by decide)) (gx_sub x6 (by decide))
  refine H m6 x06 (fun y yn => by rw [o6 y yn, x25 63 (by decide), x02 63 (by decide)]) ?_
  unfold gl_mf
  rw [x06 20 (by decide), x06 21 (by decide), x06 22 (by decide), x06 23 (by decide), x06 24 (by decide), x26 82 (by decide), x26 83 (by decide), x26 84 (by decide), x26 85 (by decide), x6 86 (by decide), x5 86 (by decide), x4 86 (by decide), x6 87 (by decide), x5 87 (by decide), x6 88 (by decide), e82]
  exact ⟨hM, k1, hU, fun n n0 n1 => (u2 n n0 n1).2, hS, h86, h87, fun n i n0 n1 i0 i1 => (h88 n i n0 n1 i0 i1).2, mh⟩
