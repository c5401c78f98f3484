/-! MADE TEXTS: the class draws -/
theorem gz_01 {b : Int → Prop} : ∀ i : Int, 0 ≤ gt_ib (b i) := fun i => by
  have := gt_ib_01 (P := b i)
  omega
theorem gz_bitAt {v0 x l : Int} {m : gh_M} {Q : Int → Prop} (h : gbs 31 v0) (hl : gz_nth (gb v0) 26 x l) (H : Q l) : w_Text_bitAt v0 x m Q := by
  obtain ⟨l0, l1, lb, lx⟩ := hl
  refine ⟨fun v at_ => 0 ≤ at_ ∧ at_ ≤ l ∧ v = x - gsum (fun i => gt_ib (gb v0 i)) at_.toNat, fun v at_ => (30 - at_).toNat, ⟨Int.le_refl _, l0, by
    show x = x - gsum _ 0
    have e : gsum (fun i => gt_ib (gb v0 i)) 0 = 0 := rfl
    omega⟩, ?_⟩
  rintro v at_ ⟨a0, a1, hv⟩
  have es : gsum (fun i => gt_ib (gb v0 i)) (at_ + 1).toNat = gsum (fun i => gt_ib (gb v0 i)) at_.toNat + gt_ib (gb v0 at_) := by
    have e1 : (at_ + 1).toNat = at_.toNat + 1 := by omega
    have e2 : ((at_.toNat : Nat) : Int) = at_ := by omega
    rw [e1]
    show gsum _ _ + gt_ib (gb v0 ((at_.toNat : Nat) : Int)) = _
    rw [e2]
  have tst := gb_test0 h a0 (by omega : at_ < 32)
  have lt : at_ < l → gsum (fun i => gt_ib (gb v0 i)) at_.toNat + gt_ib (gb v0 at_) ≤ x := fun c => by
    have g := gsum_step (F := fun i => gt_ib (gb v0 i)) (a := at_.toNat) (b := l.toNat) (fun i _ _ => gz_01 i) (by omega)
    have e2 : ((at_.toNat : Nat) : Int) = at_ := by omega
    rw [e2] at g
    (try dsimp only at g)
    omega
  unfold f_Text_bitAt_4
  refine ⟨fun _ => ⟨fun v' => at_ < l ∧ v' = x - gsum (fun i => gt_ib (gb v0 i)) (at_ + 1).toNat, fun v' y => ⟨by omega, ⟨by omega, by omega, y.2⟩, by (try dsimp only); omega⟩, fun t => ?_, fun t => ⟨fun z => ?_, fun z => ?_⟩⟩, fun c => by omega⟩
  · have nb := tst.mp t
    refine ⟨?_, ?_⟩
    · by_cases u : at_ = l
      · rw [u] at nb
        exact absurd lb nb
      · omega
    · rw [es, gt_ib_f nb]
      omega
  · have e : at_ = l := by
      by_cases u : at_ < l
      · have := lt u
        have nb : gb v0 at_ := Classical.byContradiction (fun y => t (tst.mpr y))
        rw [gt_ib_t nb] at this
        omega
      · omega
    rw [e]
    exact H
  · have nb : gb v0 at_ := Classical.byContradiction (fun y => t (tst.mpr y))
    have u : at_ < l := by
      by_cases u : at_ = l
      · rw [u] at hv
        omega
      · omega
    have := lt u
    rw [gt_ib_t nb] at this es
    have g0 := gsum_nn (f := fun i => gt_ib (gb v0 i)) at_.toNat (fun i _ _ => gz_01 i)
    have g1 := gsum_le (f := fun i => gt_ib (gb v0 i)) (B := 1) l.toNat (fun i _ _ => by
      have := gt_ib_01 (P := gb v0 i)
      (try dsimp only)
      omega)
    exact ⟨by omega, u, by rw [es]; omega⟩
/-- the rules of a name, as bits -/
theorem gz_mine {a b : Int} (a0 : 0 ≤ a) (ab : a ≤ b) (b1 : b ≤ 30) : 0 ≤ gh_ishl_f 1 b - gh_ishl_f 1 a ∧ gh_ishl_f 1 b - gh_ishl_f 1 a < 2147483648 ∧ ∀ i : Int, 0 ≤ i → (gb (gh_ishl_f 1 b - gh_ishl_f 1 a) i ↔ a ≤ i ∧ i < b) := by
  rw [gb_one (by omega) (by omega), gb_one a0 (by omega)]
  have le : 2 ^ a.toNat ≤ 2 ^ b.toNat := Nat.pow_le_pow_right (by decide) (by omega)
  have lt : 2 ^ b.toNat ≤ 2 ^ 30 := Nat.pow_le_pow_right (by decide) (by omega)
  have e : (((2 ^ b.toNat : Nat) : Int) - ((2 ^ a.toNat : Nat) : Int)) = ((2 ^ b.toNat - 2 ^ a.toNat : Nat) : Int) := (Int.ofNat_sub le).symm
  have e2 : 2 ^ b.toNat - 2 ^ a.toNat = 2 ^ a.toNat * (2 ^ (b.toNat - a.toNat) - 1) := by
    rw [Nat.mul_sub, ← Nat.pow_add, Nat.mul_one]
    have : a.toNat + (b.toNat - a.toNat) = b.toNat := by omega
    rw [this]
  have lx : 2 ^ b.toNat - 2 ^ a.toNat < 2147483648 := Nat.lt_of_le_of_lt (Nat.sub_le _ _) (Nat.lt_of_le_of_lt lt (by decide))
  rw [e]
  refine ⟨Int.natCast_nonneg _, Int.ofNat_lt.mpr lx, fun i i0 => ?_⟩
  unfold gb
  rw [Int.toNat_natCast, e2, Nat.testBit_two_pow_mul, Nat.testBit_two_pow_sub_one]
  simp only [Bool.and_eq_true, decide_eq_true_eq]
  omega
theorem gz_lokp {G : gm_G} (hG : gm_ok G) {S : Int → Int} (h1 : gm_Lr G S) {r : Int} (r0 : 0 ≤ r) (r1 : r < gm_R G) (hr : gm_lr G S r 0 < 16777216) {p : Int} (hp : p ∈ gz_pt G r (gm_s G r).toNat) : (-gm_N G ≤ p ∧ p < 0 ∧ S (-1 - p) < 16777216) ∨ (0 < p ∧ p < 67108864) := by
  have s3 := (hG.2.2.2.2.1 r r0 r1).2.2.1
  obtain ⟨d, d0, d1, e⟩ := gz_pt_mem _ (by omega) hp
  rcases gm_p_n hG r0 r1 d0 d1 with ⟨y1, y2, y3, y4⟩ | ⟨y1, y2, y3⟩
  · have := gz_rule_n hG h1 r0 r1 d0 d1 hr (by omega)
    rw [y2] at this
    rw [e]
    exact Or.inl ⟨by omega, y1, this⟩
  · rw [e]
    exact Or.inr ⟨y1, y2⟩
/-- the open parts, the next one last -/
def gz_enc (a : Int → Int) : List Int → Prop
  | [] => True
  | p :: K => a K.length = p ∧ gz_enc a K
theorem gz_enc_cg {a b : Int → Int} : ∀ L : List Int, (∀ x : Int, 0 ≤ x → x < L.length → b x = a x) → gz_enc a L → gz_enc b L
  | [], _, _ => trivial
  | p :: K, h, ⟨h1, h2⟩ => by
    have e : ((p :: K).length : Int) = K.length + 1 := by
      show ((K.length + 1 : Nat) : Int) = _
      omega
    exact ⟨by rw [h _ (by omega) (by omega)]; exact h1, gz_enc_cg K (fun x x0 x1 => h x x0 (by omega)) h2⟩
theorem gz_run_l {G : gm_G} {U : Int → Prop} {seed : Int} : ∀ (u : Nat) (s tc : Int) (tr : Int → Int) (L : List Int), gz_run G U seed u s tc tr L → ∀ x, 0 ≤ x → x < tc → 0 ≤ tr x ∧ tr x < 26
  | 0, _, _, _, _, h, x, a, b => by
    have := h.2.1
    omega
  | u + 1, s, tc, tr, L, ⟨s0, tc0, L0, h1, h2⟩, x, a, b => by
    cases L0 with
    | nil => exact False.elim h2
    | cons p K =>
      rcases h2.2 with ⟨_, e, _⟩ | ⟨_, _, e, n, _⟩
      · exact gz_run_l u s0 tc0 tr _ h1 x a (by omega)
      · by_cases q : x = tc0
        · rw [q]
          exact ⟨n.1, n.2.1⟩
        · exact gz_run_l u s0 tc0 tr _ h1 x a (by omega)
theorem gz_compose {G : gm_G} {m : gh_M} {Q : Int → gh_M → Prop} {seed : Int} (hG : gm_ok G) (hC : gm_C m G) (hr : gm_rg G (m 14) (m 15)) (hf : gm_fct G m) (s0 : 0 ≤ seed) (s1 : seed < 65536) (H0 : ¬ m 21 0 < 16777216 → Q 0 m) (H1 : ∀ (m2 : gh_M) (tc : Int) (tr : Int → Int), m 21 0 < 16777216 → gz_good G (gb (m 20 5)) seed tc tr → gx [26, 27, 28, 29] m m2 → (∀ y, y ≠ 3 → y ≠ 6 → y ≠ 7 → y ≠ 8 → m2 26 y = m 26 y) → m2 26 3 = tc → 0 ≤ tc → tc ≤ 8 → (∀ x, 0 ≤ x → x < tc → m2 27 x = tr x ∧ 0 ≤ tr x ∧ tr x < 26) → Q 1 m2) (H2 : ∀ m2 : gh_M, m 21 0 < 16777216 → gz_bad G (gb (m 20 5)) seed → gx [26, 28, 29] m m2 → (∀ y, y ≠ 6 → y ≠ 7 → y ≠ 8 → m2 26 y = m 26 y) → Q 0 m2) : w_Text_compose seed m Q := by
  have hN0 := hG.1
  have hN := hG.2.1
  have hR0 := hG.2.2.1
  have hR := hG.2.2.2.1
  obtain ⟨f1, f2, f3, f4, f5, f6⟩ := hf
  obtain ⟨U, hU⟩ : ∃ U : Int → Prop, U = gb (m 20 5) := ⟨_, rfl⟩
  rw [← hU] at H1 H2
  have end0 : gh_iand_f (m 20 2) 1 = 0 ↔ ¬ m 21 0 < 16777216 := by
    have one : gbs 8 1 ∧ ∀ i, 0 ≤ i → (gb 1 i ↔ i = 0) := by
      refine ⟨⟨by decide, by decide⟩, fun i i0 => ?_⟩
      have := gb_ishl1 (k := 0) (i := i) (Int.le_refl _) (by decide) i0
      rwa [gb_one (Int.le_refl 0) (by decide)] at this
    rw [gb_iand0 (n := 8) (by decide) (gbs_le f3.1 (by omega)) one.1, ← f3.2 0 (Int.le_refl _) (by omega)]
    constructor
    · intro h w
      exact h 0 (Int.le_refl _) ⟨w, (one.2 0 (Int.le_refl _)).mpr rfl⟩
    · rintro h i i0 ⟨w1, w2⟩
      rw [(one.2 i i0).mp w2] at w1
      exact h w1
  unfold w_Text_compose
  refine ⟨fun c => H0 (end0.mp c), fun c => ?_⟩
  have e0 : m 21 0 < 16777216 := Classical.byContradiction (fun y => c (end0.mpr y))
  obtain ⟨mm, hmm⟩ : ∃ mm, mm = gh_u (gh_u (gh_u (gh_u m 26 8 seed) 26 7 0) 29 0 (-1)) 26 6 1 := ⟨_, rfl⟩
  rw [← hmm]
  have xm : gx [26, 28, 29] m mm := by
    rw [hmm]
    exact gx_u (gx_u (gx_u (gx_u gx_rf (by decide)) (by decide)) (by decide)) (by decide)
  have om : ∀ y, y ≠ 6 → y ≠ 7 → y ≠ 8 → mm 26 y = m 26 y := fun y a b c => by
    rw [hmm, gh_u_i a, gh_u_a (by decide), gh_u_i b, gh_u_i c]
  have m6 : mm 26 6 = 1 := by
    rw [hmm, gh_u_s]
  have m7 : mm 26 7 = 0 := by
    rw [hmm, gh_u_i (by decide), gh_u_a (by decide), gh_u_s]
  have m8 : mm 26 8 = seed := by
    rw [hmm, gh_u_i (by decide), gh_u_a (by decide), gh_u_i (by decide), gh_u_s]
  have m29 : mm 29 0 = -1 := by
    rw [hmm, gh_u_a (by decide), gh_u_s]
  clear hmm
  refine ⟨fun u m2 => 0 ≤ u ∧ u ≤ 60 ∧ ∃ L : List Int, gz_run G U seed u.toNat (m2 26 8) (m2 26 7) (m2 28) L ∧ (0 ≤ m2 26 8 ∧ m2 26 8 < 65536) ∧ (0 ≤ m2 26 7 ∧ m2 26 7 ≤ 8) ∧ gz_enc (m2 29) L ∧ m2 26 6 = L.length ∧ (L.length : Int) ≤ 1 + 3 * u ∧ (∀ p, p ∈ L → (-gm_N G ≤ p ∧ p < 0 ∧ m 21 (-1 - p) < 16777216) ∨ (0 < p ∧ p < 67108864)) ∧ gx [26, 28, 29] m m2 ∧ (∀ y, y ≠ 6 → y ≠ 7 → y ≠ 8 → m2 26 y = m 26 y), fun u _ => (100 - u).toNat, ⟨Int.le_refl _, by decide, [-1], ⟨m8, m7, rfl⟩, by omega, by omega, ⟨m29, trivial⟩, m6, by decide, fun p hp => ?_, xm, om⟩, ?_⟩
  · rcases List.mem_cons.mp hp with e | e
    · rw [e]
      exact Or.inl ⟨by omega, by decide, e0⟩
    · exact absurd e List.not_mem_nil
  clear m6 m7 m8 m29 om xm mm
  rintro u m2 ⟨u0, u1, L, run, sr, tr, en, e6, len, okL, hx, o⟩
  have cm := gm_C_x hx (by decide) hC
  unfold f_Text_compose_38
  cases L with
  | nil =>
    have e6' : m2 26 6 = 0 := e6
    refine ⟨fun _ => ⟨tr.1, by omega, by omega, ?_⟩, fun y => absurd (by omega) y⟩
    obtain ⟨m3, hm3⟩ : ∃ m3, m3 = gh_u (gh_cpy m2 28 0 27 0 (m2 26 7)) 26 3 ((gh_cpy m2 28 0 27 0 (m2 26 7)) 26 7) := ⟨_, rfl⟩
    rw [← hm3]
    have c26 : ∀ y, gh_cpy m2 28 0 27 0 (m2 26 7) 26 y = m2 26 y := fun y => if_neg (fun z => absurd z.1 (by decide))
    refine H1 m3 (m2 26 7) (m2 28) e0 ⟨u.toNat, m2 26 8, run, by omega, tr.2⟩ (fun a ha => ?_) (fun y y3 y6 y7 y8 => ?_) ?_ tr.1 tr.2 (fun x x0 x1 => ⟨?_, gz_run_l _ _ _ _ _ run x x0 x1⟩)
    · have a26 : a ≠ 26 := fun y => ha (by rw [y]; decide)
      have a27 : a ≠ 27 := fun y => ha (by rw [y]; decide)
      have e1 : m3 a = m2 a := by
        funext x
        rw [hm3, gh_u_a a26]
        exact if_neg (fun z => a27 z.1)
      rw [e1]
      exact hx a (fun y => ha (by
        simp only [List.mem_cons, List.not_mem_nil, or_false] at y ⊢
        omega))
    · rw [hm3, gh_u_i y3, c26]
      exact o y y6 y7 y8
    · rw [hm3, gh_u_s, c26]
    · rw [hm3, gh_u_a (by decide)]
      unfold gh_cpy
      rw [if_pos ⟨rfl, by omega, by omega⟩]
      have e : 0 + (x - 0) = x := by omega
      rw [e]
  | cons p K =>
    have e6' : m2 26 6 = K.length + 1 := by
      have : ((p :: K).length : Int) = K.length + 1 := by
        show ((K.length + 1 : Nat) : Int) = _
        omega
      omega
    have e7' : m2 26 6 - 1 = K.length := by omega
    have okp := okL p List.mem_cons_self
    refine ⟨fun y => absurd y (by omega), fun _ => ⟨fun y => ?_, fun y => ?_⟩⟩
    · have e : u.toNat = 60 := by omega
      rw [e] at run
      exact H2 m2 e0 ⟨60, _, _, _, p, K, run, Or.inl rfl⟩ hx o
    rw [e7', en.1]
    have ux : gx [26] m2 (gh_u m2 26 6 (K.length : Int)) := gx_one _ _ _ _
    have u8 : gh_u m2 26 6 (K.length : Int) 26 8 = m2 26 8 := gh_u_i (by decide)
    have lenK : (K.length : Int) ≤ 3 * u := by
      have : ((p :: K).length : Int) = K.length + 1 := by
        show ((K.length + 1 : Nat) : Int) = _
        omega
      omega
    have eu : (u + 1).toNat = u.toNat + 1 := by omega
    -- a drawing
    have drw : ∀ (cnt : Int) (Q1 : Int → gh_M → Prop), 0 < cnt → (∀ s2 m3, s2 = (25173 * m2 26 8 + 13849) % 65536 → 0 ≤ s2 / 16 % cnt → s2 / 16 % cnt < cnt → m3 = gh_u (gh_u m2 26 6 (K.length : Int)) 26 8 s2 → Q1 (s2 / 16 % cnt) m3) → w_Text_draw cnt (gh_u m2 26 6 (K.length : Int)) Q1 := by
      intro cnt Q1 c0 H3
      unfold w_Text_draw
      rw [u8, if_neg (by omega)]
      refine ⟨by omega, by omega, by omega, fun _ => ⟨by omega, by omega, c0⟩, H3 _ _ rfl (Int.emod_nonneg _ (by omega)) (Int.emod_lt_of_pos _ c0) rfl⟩
    have kn : k_Grammar_nameOf p (gh_u m2 26 6 (K.length : Int)) ∧ x_Grammar_nameOf p (gh_u m2 26 6 (K.length : Int)) = if p < 0 then -1 - p else -1 := by
      have e13 : gh_u m2 26 6 (K.length : Int) 13 1 = gm_N G := by
        rw [ux 13 (by decide)]
        exact cm.1
      unfold k_Grammar_nameOf x_Grammar_nameOf
      rw [e13]
      refine ⟨fun _ => ⟨by omega, fun _ => by omega⟩, ?_⟩
      by_cases w : p < 0
      · rw [if_pos w, if_pos w, if_neg (by omega)]
      · rw [if_neg w, if_neg w]
    refine ⟨by omega, by omega, by omega, kn.1, ?_⟩
    rw [kn.2]
    intro v3 hv3
    refine ⟨fun m3 => 0 ≤ u + 1 ∧ u + 1 ≤ 60 ∧ ∃ L : List Int, gz_run G U seed (u + 1).toNat (m3 26 8) (m3 26 7) (m3 28) L ∧ (0 ≤ m3 26 8 ∧ m3 26 8 < 65536) ∧ (0 ≤ m3 26 7 ∧ m3 26 7 ≤ 8) ∧ gz_enc (m3 29) L ∧ m3 26 6 = L.length ∧ (L.length : Int) ≤ 1 + 3 * (u + 1) ∧ (∀ p, p ∈ L → (-gm_N G ≤ p ∧ p < 0 ∧ m 21 (-1 - p) < 16777216) ∨ (0 < p ∧ p < 67108864)) ∧ gx [26, 28, 29] m m3 ∧ (∀ y, y ≠ 6 → y ≠ 7 → y ≠ 8 → m3 26 y = m 26 y), fun m3 w => ⟨by omega, w, by (try dsimp only); omega⟩, fun w => ?_, fun w => ?_⟩
    · -- a letter
      have p0 : 0 < p := by
        rw [hv3] at w
        by_cases z : p < 0
        · rw [if_pos z] at w
          omega
        · omega
      have gp : gbs 26 p := ⟨by omega, by omega⟩
      have cl : gh_pop p = gz_cl p := gz_pop (by decide) gp
      have pos : 0 < gz_cl p := by
        have ⟨i, i0, i1, ib⟩ : ∃ i : Int, 0 ≤ i ∧ i < 26 ∧ gb p i := by
          refine Classical.byContradiction (fun no => ?_)
          have : p = 0 := gb_ext gp (gbs_0 26) (fun i i0 i1 => ⟨fun z => absurd ⟨i, i0, i1, z⟩ no, fun z => absurd z (gb_0 i)⟩)
          omega
        have g := gsum_ge (f := fun i => gt_ib (gb p i)) 26 (fun i _ _ => gz_01 i) i i0 i1
        (try dsimp only at g)
        rw [gt_ib_t ib] at g
        show 0 < gsum _ 26
        omega
      refine ⟨by omega, by omega, ?_⟩
      unfold w_Text_putLetter
      rw [cl]
      refine drw (gz_cl p) _ pos (fun s2 m3 hs2 x0 x1 hm3 => ?_)
      obtain ⟨l, hl⟩ := gz_nth_x (b := gb p) 26 x0 x1
      refine gz_bitAt (gbs_le gp (by decide)) hl ?_
      have x3 : gx [26] m2 m3 := by
        rw [hm3]
        exact gx_u ux (by decide)
      have e37 : m3 26 7 = m2 26 7 := by
        rw [hm3, gh_u_i (by decide), gh_u_i (by decide)]
      have e38 : m3 26 8 = s2 := by
        rw [hm3, gh_u_s]
      have e36 : m3 26 6 = K.length := by
        rw [hm3, gh_u_i (by decide), gh_u_s]
      have o3 : ∀ y, y ≠ 6 → y ≠ 7 → y ≠ 8 → m3 26 y = m 26 y := fun y a b c => by
        rw [hm3, gh_u_i c, gh_u_i a]
        exact o y a b c
      rw [e37]
      refine ⟨fun z => ⟨tr.1, z.2, by omega, fun q => absurd q (by decide), fun _ => ?_⟩, fun z => ⟨fun _ => ?_, fun q => absurd rfl q⟩⟩
      · refine ⟨by omega, by omega, K, ?_, by rw [gh_u_i (by decide), gh_u_a (by decide), e38]; omega, by rw [gh_u_s]; omega, ?_, by rw [gh_u_i (by decide), gh_u_a (by decide)]; exact e36, by omega, fun q hq => okL q (List.mem_cons_of_mem _ hq), ?_, fun y a b c => by rw [gh_u_i b, gh_u_a (by decide)]; exact o3 y a b c⟩
        · have f28 : ∀ x, 0 ≤ x → x < m2 26 7 → gh_u (gh_u m3 28 (m2 26 7) l) 26 7 (m2 26 7 + 1) 28 x = m2 28 x := fun x x0 x1 => by
            rw [gh_u_a (by decide), gh_u_i (by omega), x3 28 (by decide)]
          have f28s : gh_u (gh_u m3 28 (m2 26 7) l) 26 7 (m2 26 7 + 1) 28 (m2 26 7) = l := by
            rw [gh_u_a (by decide), gh_u_s]
          rw [eu, gh_u_i (by decide), gh_u_a (by decide), e38, gh_u_s]
          refine ⟨m2 26 8, m2 26 7, p :: K, gz_run_cg _ _ _ _ f28 run, hs2, Or.inr ⟨p0, z.2, rfl, ?_, rfl⟩⟩
          rw [f28s]
          exact hl
        · refine gz_enc_cg K (fun x x0 x1 => ?_) en.2
          rw [gh_u_a (by decide), gh_u_a (by decide), x3 29 (by decide)]
        · exact gx_u (gx_u (gx_t hx (gx_sub x3 (by decide))) (by decide)) (by decide)
      · have t8 : m2 26 7 = 8 := by
          by_cases q : m2 26 7 < 8
          · have := hl.1
            exact absurd ⟨by omega, q⟩ z
          · omega
        exact H2 m3 e0 ⟨u.toNat, _, _, _, p, K, run, Or.inr ⟨by omega, t8, p0⟩⟩ (gx_t hx (gx_sub x3 (by decide))) o3
    · -- a name
      have pn : p < 0 ∧ -gm_N G ≤ p ∧ m 21 (-1 - p) < 16777216 := by
        rcases okp with z | z
        · exact ⟨z.2.1, z.1, z.2.2⟩
        · rw [hv3, if_neg (by omega)] at w
          exact absurd rfl w
      rw [hv3, if_pos pn.1]
      have n0 : 0 ≤ -1 - p := by omega
      have n1 : -1 - p < gm_N G := by omega
      obtain ⟨g1, g2, g3, g4⟩ := hr (-1 - p) n0 n1
      obtain ⟨mn1, mn2, mn3⟩ := gz_mine (a := m 14 (-1 - p)) (b := m 14 (-1 - p) + m 15 (-1 - p)) g1 (by omega) (by omega)
      have e14 : gh_u m2 26 6 (K.length : Int) 14 = m 14 := (ux 14 (by decide)).trans (hx 14 (by decide))
      have e15 : gh_u m2 26 6 (K.length : Int) 15 = m 15 := (ux 15 (by decide)).trans (hx 15 (by decide))
      have e20 : gh_u m2 26 6 (K.length : Int) 20 = m 20 := (ux 20 (by decide)).trans (hx 20 (by decide))
      unfold w_Text_putRule k_Grammar_behindRules x_Grammar_behindRules
      rw [e14, e15, e20]
      refine ⟨⟨by omega, by omega, by omega, by omega, by omega⟩, by omega, by omega, by omega, ?_⟩
      intro v2 hv2
      rw [hv2]
      clear hv2 v2
      intro ch hch
      have gch : gbs 20 ch := by
        rw [hch]
        exact gbs_and (by decide) f4.1 mn1
      have bch : ∀ r, 0 ≤ r → r < gm_R G → (gb ch r ↔ U r ∧ gm_o G r = -1 - p) := fun r r0 r1 => by
        rw [hch, gb_iand (by decide) f4.1 mn1, mn3 r r0, hU, g4 r r0 r1]
      have bhi : ∀ r, gm_R G ≤ r → ¬ gb ch r := fun r r0 z => by
        rw [hch, gb_iand (by decide) f4.1 mn1, f4.2 r (by omega)] at z
        omega
      have sums : ∀ n : Nat, (n : Int) ≤ gm_R G → gsum (fun i => gt_ib (gb ch i)) n = gsum (fun r => gt_ib (U r ∧ gm_o G r = -1 - p)) n := fun n hn => gsum_cg n (fun i i0 i1 => gt_ib_cg (bch i i0 (by omega)))
      have s26 : gsum (fun i => gt_ib (gb ch i)) 26 = gz_cr G U (-1 - p) := by
        have e : 26 = (gm_R G).toNat + (26 - (gm_R G).toNat) := by omega
        rw [e, gsum_ext _ (fun i i0 i1 => gt_ib_f (bhi i (by omega)))]
        exact sums _ (by omega)
      have cl : gh_pop ch = gz_cr G U (-1 - p) := by
        rw [← s26]
        exact gz_pop (by decide) (gbs_le gch (by decide))
      have pos : 0 < gz_cr G U (-1 - p) := by
        obtain ⟨r, r0, r1, ro, rl⟩ := gz_rule_x hG f2.1 f2.2.1 f2.2.2 n0 n1 pn.2.2
        have ur : U r := by
          rw [hU]
          exact (f4.2 r r0).mpr ⟨r1, rl⟩
        have g := gsum_ge (f := fun r => gt_ib (U r ∧ gm_o G r = -1 - p)) (gm_R G).toNat (fun i _ _ => gz_01 (b := fun r => U r ∧ gm_o G r = -1 - p) i) r r0 (by omega)
        (try dsimp only at g)
        rw [gt_ib_t ⟨ur, ro⟩] at g
        show 0 < gsum _ _
        omega
      rw [cl]
      refine drw (gz_cr G U (-1 - p)) _ pos (fun s2 m3 hs2 x0 x1 hm3 => ?_)
      have x1' : s2 / 16 % gz_cr G U (-1 - p) < gsum (fun i => gt_ib (gb ch i)) 26 := by
        rw [s26]
        exact x1
      obtain ⟨r, hl⟩ := gz_nth_x (b := gb ch) 26 x0 x1'
      refine gz_bitAt (gbs_le gch (by decide)) hl ?_
      have r0 := hl.1
      have r1 : r < gm_R G := Classical.byContradiction (fun y => bhi r (by omega) hl.2.2.1)
      have hr2 := (bch r r0 r1).mp hl.2.2.1
      obtain ⟨p1, p2, p3, p4, p5⟩ := hG.2.2.2.2.1 r r0 r1
      have x3 : gx [26] m2 m3 := by
        rw [hm3]
        exact gx_u ux (by decide)
      have e37 : m3 26 7 = m2 26 7 := by
        rw [hm3, gh_u_i (by decide), gh_u_i (by decide)]
      have e38 : m3 26 8 = s2 := by
        rw [hm3, gh_u_s]
      have e36 : m3 26 6 = K.length := by
        rw [hm3, gh_u_i (by decide), gh_u_s]
      have o3 : ∀ y, y ≠ 6 → y ≠ 7 → y ≠ 8 → m3 26 y = m 26 y := fun y a b c => by
        rw [hm3, gh_u_i c, gh_u_i a]
        exact o y a b c
      have xm3 : gx [26, 28, 29] m m3 := gx_t hx (gx_sub x3 (by decide))
      have cm3 := gm_C_x xm3 (by decide) hC
      have e17 := (cm3.2.2 r r0 r1).2.1
      rw [e17, e36]
      refine ⟨fun _ _ => ⟨r0, by omega, by omega⟩, fun _ => ⟨r0, by omega, by omega, ?_⟩, fun y => absurd ⟨by omega, by omega, by omega⟩ y⟩
      intro v5 hv5
      rw [hv5]
      clear hv5 v5
      refine ⟨fun d m4 => -1 ≤ d ∧ d < gm_s G r ∧ gx [26, 29] m3 m4 ∧ (∀ y, y ≠ 6 → m4 26 y = m3 26 y) ∧ m4 26 6 = K.length + (gm_s G r - 1 - d) ∧ gz_enc (m4 29) (gz_pt G r (gm_s G r - 1 - d).toNat ++ K), fun d _ => (d + 1).toNat, ⟨by omega, by omega, gx_rf, fun _ _ => rfl, by omega, ?_⟩, ?_⟩
      · have e : (gm_s G r - 1 - (gm_s G r - 1)).toNat = 0 := by omega
        rw [e]
        refine gz_enc_cg K (fun x x0 x1 => ?_) en.2
        rw [x3 29 (by decide)]
      rintro d m4 ⟨d0, d1, hx4, o4, e46, en4⟩
      have cm4 := gm_C_x hx4 (by decide) cm3
      unfold f_Text_putRule_98
      refine ⟨fun z => ⟨fun q => absurd q (by decide), fun _ => ?_⟩, fun z => ?_⟩
      · have e : (gm_s G r - 1 - d).toNat = (gm_s G r).toNat := by omega
        rw [e] at en4
        have ln : ((gz_pt G r (gm_s G r).toNat ++ K).length : Int) = gm_s G r + K.length := by
          rw [List.length_append, gz_pt_len]
          omega
        refine ⟨by omega, by omega, gz_pt G r (gm_s G r).toNat ++ K, ?_, ?_, ?_, en4, by omega, by omega, fun q hq => ?_, gx_t xm3 (gx_sub hx4 (by decide)), fun y a b c => by rw [o4 y a]; exact o3 y a b c⟩
        · rw [eu, o4 8 (by decide), o4 7 (by decide), e38, e37, hx4 28 (by decide), x3 28 (by decide)]
          refine ⟨m2 26 8, m2 26 7, p :: K, run, hs2, Or.inl ⟨pn.1, rfl, r, ⟨r0, r1, hr2, ?_⟩, rfl⟩⟩
          rw [← sums r.toNat (by omega)]
          exact hl.2.2.2
        · rw [o4 8 (by decide), e38]
          omega
        · rw [o4 7 (by decide), e37]
          exact tr
        · rcases List.mem_append.mp hq with hq | hq
          · exact gz_lokp hG f2.1 r0 r1 (by
              have := hr2.1
              rw [hU] at this
              exact ((f4.2 r r0).mp this).2) hq
          · exact okL q (List.mem_cons_of_mem _ hq)
      · obtain ⟨kk, xx⟩ := gm_partAt hG cm4 r0 r1 (d := d) (by omega) d1
        rw [xx]
        have lnx : ((gz_pt G r (gm_s G r - 1 - d).toNat ++ K).length : Int) = (gm_s G r - 1 - d) + K.length := by
          rw [List.length_append, gz_pt_len]
          omega
        refine ⟨kk, by omega, by omega, by omega, by omega, ⟨by omega, by omega, gx_u (gx_u hx4 (by decide)) (by decide), fun y yn => by rw [gh_u_i yn, gh_u_a (by decide)]; exact o4 y yn, by rw [gh_u_s]; omega, ?_⟩, by (try dsimp only); omega⟩
        have e : (gm_s G r - 1 - (d + -1)).toNat = (gm_s G r - 1 - d).toNat + 1 := by omega
        have ed : gm_s G r - ((((gm_s G r - 1 - d).toNat : Nat) : Int) + 1) = d := by omega
        rw [e]
        show gz_enc _ (gm_p G r (gm_s G r - ((((gm_s G r - 1 - d).toNat : Nat) : Int) + 1)) :: (gz_pt G r (gm_s G r - 1 - d).toNat ++ K))
        rw [ed]
        have e4x : m4 26 6 = ((gz_pt G r (gm_s G r - 1 - d).toNat ++ K).length : Int) := by omega
        refine ⟨?_, gz_enc_cg _ (fun x x0 x1 => ?_) en4⟩
        · rw [← e4x, gh_u_a (by decide), gh_u_s]
        · rw [gh_u_a (by decide), gh_u_i (by omega)]

