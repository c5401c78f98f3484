/-! THE TABLE, BOTH SIDES -/
/-- v tells which of the numbers from a up to b have P: none, the one, several -/
def gm_fnd (P : Int → Prop) (a b v : Int) : Prop := (v = -1 ∧ ∀ r, a ≤ r → r < b → ¬ P r) ∨ (a ≤ v ∧ v < b ∧ P v ∧ ∀ q, a ≤ q → q < b → P q → q = v) ∨ (v = -2 ∧ ∃ r q, a ≤ r ∧ r < q ∧ q < b ∧ P r ∧ P q)
/-- 1 where P holds, else 0 -/
noncomputable def gt_ib (P : Prop) : Int := @ite Int P (Classical.propDecidable P) 1 0
theorem gt_ib_t {P : Prop} (h : P) : gt_ib P = 1 := if_pos h
theorem gt_ib_f {P : Prop} (h : ¬ P) : gt_ib P = 0 := if_neg h
theorem gt_ib_01 {P : Prop} : gt_ib P = 0 ∨ gt_ib P = 1 := by
  by_cases h : P
  · exact Or.inr (gt_ib_t h)
  · exact Or.inl (gt_ib_f h)
theorem gt_ib_cg {P Q : Prop} (h : P ↔ Q) : gt_ib P = gt_ib Q := by
  by_cases c : P
  · rw [gt_ib_t c, gt_ib_t (h.mp c)]
  · rw [gt_ib_f c, gt_ib_f (fun y => c (h.mpr y))]
theorem gm_fnd_uniq {P : Int → Prop} {a b v w : Int} (a0 : 0 ≤ a) (h1 : gm_fnd P a b v) (h2 : gm_fnd P a b w) : v = w := by
  rcases h1 with ⟨e1, n1⟩ | ⟨a1, b1, p1, u1⟩ | ⟨e1, r, q, c1, c2, c3, c4, c5⟩
  · rcases h2 with ⟨e2, n2⟩ | ⟨a2, b2, p2, u2⟩ | ⟨e2, r2, q2, d1, d2, d3, d4, d5⟩
    · omega
    · exact absurd p2 (n1 w a2 b2)
    · exact absurd d4 (n1 r2 d1 (by omega))
  · rcases h2 with ⟨e2, n2⟩ | ⟨a2, b2, p2, u2⟩ | ⟨e2, r2, q2, d1, d2, d3, d4, d5⟩
    · exact absurd p1 (n2 v a1 b1)
    · exact u2 v a1 b1 p1
    · have y1 := u1 r2 d1 (by omega) d4
      have y2 := u1 q2 (by omega) d3 d5
      omega
  · rcases h2 with ⟨e2, n2⟩ | ⟨a2, b2, p2, u2⟩ | ⟨e2, r2, q2, d1, d2, d3, d4, d5⟩
    · exact absurd c4 (n2 r c1 (by omega))
    · have y1 := u2 r c1 (by omega) c4
      have y2 := u2 q (by omega) c3 c5
      omega
    · omega
theorem gm_fnd_0 {P : Int → Prop} {a : Int} : gm_fnd P a a (-1) := Or.inl ⟨rfl, fun r x y => by omega⟩
theorem gm_fnd_n {P : Int → Prop} {a b v : Int} (h : gm_fnd P a b v) (hp : ¬ P b) : gm_fnd P a (b + 1) v := by
  rcases h with ⟨e1, n1⟩ | ⟨a1, b1, p1, u1⟩ | ⟨e1, r, q, c1, c2, c3, c4, c5⟩
  · refine Or.inl ⟨e1, fun r x y z => ?_⟩
    by_cases e : r = b
    · rw [e] at z
      exact hp z
    · exact n1 r x (by omega) z
  · refine Or.inr (Or.inl ⟨a1, by omega, p1, fun q x y z => ?_⟩)
    by_cases e : q = b
    · rw [e] at z
      exact absurd z hp
    · exact u1 q x (by omega) z
  · exact Or.inr (Or.inr ⟨e1, r, q, c1, c2, by omega, c4, c5⟩)
theorem gm_fnd_y {P : Int → Prop} {a b v : Int} (ab : a ≤ b) (a0 : 0 ≤ a) (h : gm_fnd P a b v) (hp : P b) : gm_fnd P a (b + 1) (if v = -1 then b else -2) := by
  rcases h with ⟨e1, n1⟩ | ⟨a1, b1, p1, u1⟩ | ⟨e1, r, q, c1, c2, c3, c4, c5⟩
  · rw [if_pos e1]
    refine Or.inr (Or.inl ⟨ab, by omega, hp, fun q x y z => ?_⟩)
    by_cases e : q = b
    · exact e
    · exact absurd z (n1 q x (by omega))
  · rw [if_neg (by omega)]
    exact Or.inr (Or.inr ⟨rfl, v, b, a1, b1, by omega, p1, hp⟩)
  · rw [if_neg (by omega)]
    exact Or.inr (Or.inr ⟨rfl, r, q, c1, c2, by omega, c4, c5⟩)
theorem gm_fnd_cg {P P2 : Int → Prop} {a b v : Int} (h : ∀ r, a ≤ r → r < b → (P r ↔ P2 r)) (h1 : gm_fnd P a b v) : gm_fnd P2 a b v := by
  rcases h1 with ⟨e1, n1⟩ | ⟨a1, b1, p1, u1⟩ | ⟨e1, r, q, c1, c2, c3, c4, c5⟩
  · exact Or.inl ⟨e1, fun r x y z => n1 r x y ((h r x y).mpr z)⟩
  · exact Or.inr (Or.inl ⟨a1, b1, (h v a1 b1).mp p1, fun q x y z => u1 q x y ((h q x y).mpr z)⟩)
  · exact Or.inr (Or.inr ⟨e1, r, q, c1, c2, c3, (h r c1 (by omega)).mp c4, (h q (by omega) c3).mp c5⟩)
/-- where the rules of each name begin, and how many they are -/
def gm_rg (G : gm_G) (f k : Int → Int) : Prop := ∀ n, 0 ≤ n → n < gm_N G → 0 ≤ f n ∧ 0 ≤ k n ∧ f n + k n ≤ gm_R G ∧ ∀ r, 0 ≤ r → r < gm_R G → (gm_o G r = n ↔ f n ≤ r ∧ r < f n + k n)
theorem gm_ruleFor {m : gh_M} {G : gm_G} {Q : Int → Prop} (hG : gm_ok G) (hr : gm_rg G (m 14) (m 15)) (hb : ∀ r, 0 ≤ r → r < gm_R G → gbs 27 (m 25 r)) {n c : Int} (n0 : 0 ≤ n) (n1 : n < gm_N G) (c0 : 0 ≤ c) (c1 : c ≤ 26) (h : ∀ v, gm_fnd (fun r => gb (m 25 r) c) (m 14 n) (m 14 n + m 15 n) v → Q v) : w_Facts_ruleFor n c m Q := by
  have hN := hG.2.1
  have hR := hG.2.2.2.1
  obtain ⟨r1, r2, r3, r4⟩ := hr n n0 n1
  refine ⟨n0, by omega, ?_⟩
  rintro _ rfl
  refine ⟨fun v r => m 14 n ≤ r ∧ r ≤ m 14 n + m 15 n ∧ v ≠ -2 ∧ gm_fnd (fun r => gb (m 25 r) c) (m 14 n) r v, fun _ r => (30 - r).toNat, ⟨Int.le_refl _, by omega, by decide, gm_fnd_0⟩, ?_⟩
  rintro v r ⟨a1, a2, a3, a4⟩
  unfold f_Facts_ruleFor_13 k_Grammar_behindRules x_Grammar_behindRules
  refine ⟨⟨n0, by omega, n0, by omega, by omega⟩, fun z => ⟨by omega, by omega, ?_⟩, fun z => ?_⟩
  · have t := gb_test0 (i := c) (gbs_le (hb r (by omega) (by omega)) (by decide : 27 ≤ 31)) c0 (by omega)
    refine ⟨fun v' => v' ≠ -2 ∧ gm_fnd (fun r => gb (m 25 r) c) (m 14 n) (r + 1) v', ?_, fun y => ⟨a3, gm_fnd_n a4 (t.mp y)⟩, fun y => ?_⟩
    · rintro v' ⟨j1, j2⟩
      exact ⟨by omega, ⟨by omega, by omega, j1, j2⟩, by (try dsimp only); omega⟩
    · have y2 : gb (m 25 r) c := Classical.byContradiction (fun w => y (t.mpr w))
      have y3 := gm_fnd_y (by omega) (by omega) a4 y2
      refine ⟨fun w => ?_, fun w => ?_⟩
      · rw [if_pos w] at y3
        exact ⟨by omega, y3⟩
      · rcases a4 with ⟨e1, n1⟩ | ⟨b1, b2, p1, u1⟩ | ⟨e1, _⟩
        · exact absurd e1 w
        · exact h (-2) (Or.inr (Or.inr ⟨rfl, v, r, b1, b2, z, p1, y2⟩))
        · exact absurd e1 a3
  · have e : r = m 14 n + m 15 n := by omega
    rw [e] at a4
    exact h v a4
theorem gm_bit2 {X W c : Int} (hX : gbs 31 X) (hW : gbs 31 W) (c0 : 0 ≤ c) (c1 : c < 32) : gh_iand_f (gh_iand_f (gh_ishr_f X 27) (gh_ishr_f W c)) 1 = gt_ib (gb X 27 ∧ gb W c) := by
  obtain ⟨a, rfl, ha⟩ := gbs_nat hX
  obtain ⟨b, rfl, hb⟩ := gbs_nat hW
  obtain ⟨k, rfl⟩ := Int.eq_ofNat_of_zero_le c0
  have e1 : gh_ishr_f (a : Int) 27 = ((a / 2 ^ 27 : Nat) : Int) := gb_shr (k := 27) ha (by decide)
  have l1 : a / 2 ^ 27 < 2 ^ 31 := Nat.lt_of_le_of_lt (Nat.div_le_self _ _) ha
  have l2 : (a / 2 ^ 27) &&& (b / 2 ^ k) < 2 ^ 31 := Nat.lt_of_le_of_lt Nat.and_le_left l1
  rw [e1, gb_shr hb (by omega), gb_and l1]
  refine (gb_and (b := 1) l2).trans ?_
  have t1 : ∀ x : Nat, (x &&& 1 : Nat) = if x.testBit 0 then 1 else 0 := fun x => by
    rw [Nat.and_one_is_mod, Nat.testBit_zero]
    by_cases h : x % 2 = 1
    · rw [h]; simp
    · have : x % 2 = 0 := by omega
      rw [this]; simp
  rw [t1, Nat.testBit_and, Nat.testBit_div_two_pow, Nat.testBit_div_two_pow]
  unfold gb
  have e3 : (a : Int).toNat = a := Int.toNat_natCast _
  have e4 : (b : Int).toNat = b := Int.toNat_natCast _
  have e5 : (k : Int).toNat = k := Int.toNat_natCast _
  have e6 : (27 : Int).toNat = 27 := rfl
  simp only [e3, e4, e5, e6, Bool.and_eq_true, Nat.zero_add, Nat.add_zero]
  by_cases q : a.testBit 27 = true ∧ b.testBit k = true
  · rw [gt_ib_t q, if_pos q]
    rfl
  · rw [gt_ib_f q, if_neg q]
    rfl
theorem gm_or01 {a b : Int} (ha : a = 0 ∨ a = 1) (hb : b = 0 ∨ b = 1) : gh_ior_f a b = 1 ↔ a = 1 ∨ b = 1 := by
  rcases ha with rfl | rfl <;> rcases hb with rfl | rfl <;> decide +kernel
theorem gm_tabled {m : gh_M} {G : gm_G} {Q : Int → Prop} (hG : gm_ok G) (hD : gm_D m G) (hr : gm_rg G (m 77) (m 78)) {E U S : Int} {F W : Int → Int} (hE : ∀ n, 0 ≤ n → n < gm_N G → (m 82 n = 0 ↔ gb E n)) (hU : ∀ r, 0 ≤ r → r < gm_R G → (m 83 r ≠ 0 ↔ gb U r)) (hS : ∀ n, 0 ≤ n → n < gm_N G → (m 85 n ≠ 0 ↔ gb S n)) (hF : ∀ n, 0 ≤ n → n < gm_N G → m 86 n = F n) (f1 : ∀ n, 0 ≤ n → n < gm_N G → gbs 26 (F n)) (hW : ∀ n, 0 ≤ n → n < gm_N G → m 87 n = W n) (w1 : ∀ n, 0 ≤ n → n < gm_N G → gbs 27 (W n)) (w4 : ∀ n, 0 ≤ n → n < gm_N G → True) {n c : Int} (n0 : 0 ≤ n) (n1 : n < gm_N G) (c0 : 0 ≤ c) (c1 : c ≤ 26) (h : ∀ v, gm_fnd (fun r => gm_tb G E F U S W r c) (m 77 n) (m 77 n + m 78 n) v → Q v) : w_Model_tabled n c m Q := by
  have hN := hG.2.1
  have hR := hG.2.2.2.1
  obtain ⟨r1, r2, r3, r4⟩ := hr n n0 n1
  refine ⟨n0, by omega, ?_⟩
  rintro _ rfl
  refine ⟨fun v r => m 77 n ≤ r ∧ r ≤ m 77 n + m 78 n ∧ gm_fnd (fun r => gm_tb G E F U S W r c) (m 77 n) r v, fun _ r => (30 - r).toNat, ⟨Int.le_refl _, by omega, gm_fnd_0⟩, ?_⟩
  rintro v r ⟨a1, a2, a4⟩
  unfold f_Model_tabled_10
  refine ⟨n0, by omega, n0, by omega, by omega, fun z => ?_, fun z => ?_⟩
  · have rr0 : 0 ≤ r := by omega
    have rr1 : r < gm_R G := by omega
    have own : gm_o G r = n := (r4 r rr0 rr1).mpr ⟨a1, z⟩
    have hu := hU r rr0 rr1
    have hs := hS n n0 n1
    refine gm_firstFrom (E := E) hG hD hE (fun n n0 n1 => by rw [hF n n0 n1]; exact f1 n n0 n1) rr0 rr1 (Int.le_refl _) (by decide) (fun Y hY hc => ?_)
    obtain ⟨b1, b2, b3, b4, b5⟩ := gb_mask hY
    have frF : ∀ l, gm_fr G E (m 86) r 0 (gm_s G r) l ↔ gm_fr G E F r 0 (gm_s G r) l := fun l => by
      have each : ∀ d, 0 ≤ d → d < gm_s G r → gm_n G r d ≠ -1 → m 86 (gm_n G r d) = F (gm_n G r d) := fun d d0 d1 d2 => by
        have w := gm_n_rng hG rr0 rr1 d0 d1
        exact hF _ (by omega) (by omega)
      constructor
      · rintro ⟨d, y1, y2, y3, y4⟩
        exact ⟨d, y1, y2, y3, y4.imp id (fun w => ⟨w.1, by rw [← each d y1 y2 w.1]; exact w.2⟩)⟩
      · rintro ⟨d, y1, y2, y3, y4⟩
        exact ⟨d, y1, y2, y3, y4.imp id (fun w => ⟨w.1, by rw [each d y1 y2 w.1]; exact w.2⟩)⟩
    have wb := w1 n n0 n1
    rw [hW n n0 n1]
    have fin : ∀ V, (V = 0 ∨ V = 1) → (V = 1 ↔ gm_er G E r 0 (-1) ∧ gb (W n) c) → 0 ≤ n ∧ n < 8 ∧ ((¬ m 85 n = 0 → 0 ≤ r ∧ r < 20 ∧ (¬ m 83 r = 0 → 0 ≤ n ∧ n < 8)) ∧ ∀ v6 : Int, v6 = (if ¬ m 85 n = 0 ∧ ¬ m 83 r = 0 ∧ gh_ior_f (gh_iand_f (gh_ishr_f Y c) 1) V = 1 then (1 : Int) else 0) → ∀ v3' : Int, v3' = (if v6 = 0 then v else (if v = -1 then r else -2)) → gh_i (r + 1) ∧ (fun x0' x1' => (m 77 n ≤ x1' ∧ x1' ≤ m 77 n + m 78 n ∧ gm_fnd (fun r => gm_tb G E F U S W r c) (m 77 n) x1' x0') ∧ (30 - x1').toNat < (30 - r).toNat) v3' (r + 1)) := by
      intro V v01 vi
      refine ⟨n0, by omega, fun _ => ⟨by omega, by omega, fun _ => ⟨n0, by omega⟩⟩, ?_⟩
      rintro _ rfl
      rintro _ rfl
      have tst := gb_test1 (i := c) (gbs_le hY (by decide : 26 ≤ 31)) c0 (by omega)
      have t01 : gh_iand_f (gh_ishr_f Y c) 1 = 0 ∨ gh_iand_f (gh_ishr_f Y c) 1 = 1 := by
        rw [gb_test (gbs_le hY (by decide : 26 ≤ 31)) c0 (by omega)]
        exact gh_ib01
      have key : (¬ m 85 n = 0 ∧ ¬ m 83 r = 0 ∧ gh_ior_f (gh_iand_f (gh_ishr_f Y c) 1) V = 1) ↔ gm_tb G E F U S W r c := by
        unfold gm_tb
        rw [gm_or01 t01 v01, tst, vi, hc c c0, frF c, own, ← hu, ← hs]
        exact ⟨fun ⟨x, y, w⟩ => ⟨y, x, w⟩, fun ⟨x, y, w⟩ => ⟨y, x, w⟩⟩
      have two : ∀ b : Prop, ∀ _ : Decidable b, (if (if b then (1 : Int) else 0) = 0 then v else (if v = -1 then r else -2)) = if b then (if v = -1 then r else -2) else v := fun b _ => by
        by_cases q : b
        · rw [if_pos q, if_pos q, if_neg (by decide)]
        · rw [if_neg q, if_neg q, if_pos rfl]
      rw [two]
      refine ⟨by omega, ⟨by omega, by omega, ?_⟩, by (try dsimp only); omega⟩
      by_cases q : ¬ m 85 n = 0 ∧ ¬ m 83 r = 0 ∧ gh_ior_f (gh_iand_f (gh_ishr_f Y c) 1) V = 1
      · rw [if_pos q]
        exact gm_fnd_y a1 (by omega) a4 (key.mp q)
      · rw [if_neg q]
        exact gm_fnd_n a4 (fun y => q (key.mpr y))
    refine ⟨fun er => ?_, fun er => ?_⟩
    · rw [b3, gm_bit2 (gbs_le b2 (by decide)) (gbs_le wb (by decide)) c0 (by omega)]
      refine fin _ gt_ib_01 ?_
      by_cases q : gb (W n) c
      · rw [gt_ib_t ⟨b5, q⟩]
        exact ⟨fun _ => ⟨er, q⟩, fun _ => rfl⟩
      · rw [gt_ib_f (fun y => q y.2)]
        exact ⟨fun y => absurd y (by decide), fun y => absurd y.2 q⟩
    · rw [b1, gm_bit2 (gbs_le hY (by decide)) (gbs_le wb (by decide)) c0 (by omega), gt_ib_f (fun y => b4 y.1)]
      exact fin 0 (Or.inl rfl) ⟨fun y => absurd y (by decide), fun y => absurd y.1 er⟩
  · have e : r = m 77 n + m 78 n := by omega
    rw [e] at a4
    exact h v a4
