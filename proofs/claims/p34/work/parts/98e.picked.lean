/-! A PICKED TREE'S STEPS: its letters, and that numbers are told apart by steps -/
/-- letters among the first steps -/
def gj_nl (tr : Int → Int) : Nat → Int
  | 0 => 0
  | u + 1 => gj_nl tr u + (if tr u < 0 then 1 else 0)
/-- what is still to be told covers the letters from p on -/
def gj_cv (z : Int) (t : Int → Int) : Int → List gp_nd → Prop
  | p, [] => p = z
  | p, nd :: L => (nd.1 < 0 ∧ nd.1 = -1 - t p ∧ p < z ∧ gj_cv z t (p + 1) L) ∨ (¬ nd.1 < 0 ∧ nd.2.1 = p ∧ p ≤ nd.2.2.1 ∧ nd.2.2.1 ≤ z ∧ gj_cv z t nd.2.2.1 L)
def gj_l2 (N : gp_nd → gp_nd → Prop) : List gp_nd → List gp_nd → Prop
  | [], [] => True
  | a :: L, b :: M => N a b ∧ gj_l2 N L M
  | [], _ :: _ => False
  | _ :: _, [] => False
theorem gj_l2_app {N : gp_nd → gp_nd → Prop} {L M : List gp_nd} : ∀ K K2 : List gp_nd, K.length = K2.length → (gj_l2 N (K ++ L) (K2 ++ M) ↔ gj_l2 N K K2 ∧ gj_l2 N L M)
  | [], [], _ => ⟨fun h => ⟨trivial, h⟩, fun h => h.2⟩
  | a :: K, b :: K2, h => by
    have ih := gj_l2_app (N := N) (L := L) (M := M) K K2 (by simpa using h)
    show N a b ∧ gj_l2 N (K ++ L) (K2 ++ M) ↔ (N a b ∧ gj_l2 N K K2) ∧ gj_l2 N L M
    rw [ih]
    exact ⟨fun y => ⟨⟨y.1, y.2.1⟩, y.2.2⟩, fun y => ⟨y.1.1, y.1.2, y.2⟩⟩
  | [], _ :: _, h => by simp at h
  | _ :: _, [], h => by simp at h
def gj_N1 (a b : gp_nd) : Prop := a.1 = b.1 ∧ (¬ a.1 < 0 → a.2.1 = b.2.1 ∧ a.2.2.1 = b.2.2.1)
def gj_N2 (a b : gp_nd) : Prop := ¬ a.1 < 0 → a.2.2.2.1 = b.2.2.2.1
def gj_N3 (a b : gp_nd) : Prop := ¬ a.1 < 0 → a.2.2.2.2.2 = b.2.2.2.2.2
section G25
variable {G : gm_G} {z : Int} {t : Int → Int}
theorem gj_step {L L2 : List gp_nd} {e dp dp2 : Int} (h : gp_step G z t L e dp dp2 L2) : ∃ nd T, L = nd :: T ∧ ((nd.1 < 0 ∧ e = nd.1 ∧ dp2 = dp ∧ L2 = T) ∨ (¬ nd.1 < 0 ∧ dp2 = max dp nd.2.2.2.2.1 ∧ ∃ k2 K, gp_rule G z t nd.1 nd.2.1 nd.2.2.1 (gh_ior_f nd.2.2.2.1 (gh_ishl_f 1 nd.1)) nd.2.2.2.2.2 e k2 ∧ gp_kids G z t e nd.2.1 nd.2.2.1 (gh_ior_f nd.2.2.2.1 (gh_ishl_f 1 nd.1)) (nd.2.2.2.2.1 + 1) (gm_s G e).toNat nd.2.1 k2 K ∧ L2 = K ++ T)) := by
  cases L with
  | nil => exact False.elim h
  | cons nd T =>
    refine ⟨nd, T, rfl, ?_⟩
    obtain ⟨n, i, j, B, lv, k⟩ := nd
    by_cases c : n < 0
    · have x := h.1 c
      exact Or.inl ⟨c, x⟩
    · have x := h.2 c
      exact Or.inr ⟨c, x⟩
theorem gj_kids_len {r i j A lv : Int} : ∀ (c : Nat) (p l : Int) (K : List gp_nd), gp_kids G z t r i j A lv c p l K → K.length = c
  | 0, _, _, K, h => by
    have : K = [] := h
    rw [this]
    rfl
  | c + 1, p, l, K, ⟨q, l2, L2, h1, h2, h3⟩ => by
    rw [h2]
    have := gj_kids_len c q _ L2 h3
    show L2.length + 1 = c + 1
    omega
/-- the parts of a rule cover its letters -/
theorem gj_kids_cv (hG : gm_ok G) (ht : ∀ x, 0 ≤ x → x < z → 0 ≤ t x) {r i j A lv : Int} {L : List gp_nd} (r0 : 0 ≤ r) (r1 : r < gm_R G) (jz : j ≤ z) (hL : gj_cv z t j L) : ∀ (c : Nat) (p l : Int) (K : List gp_nd), (c : Int) ≤ gm_s G r → 0 ≤ p → p ≤ j → 0 < gk_R G z t r i j (gb A) (gm_s G r - c) p → gp_kids G z t r i j A lv c p l K → gj_cv z t p (K ++ L)
  | 0, p, l, K, _, _, _, hr, h => by
    have e : K = [] := h
    have e2 : gm_s G r - ((0 : Nat) : Int) = gm_s G r := by omega
    rw [e2, gk_R_e] at hr
    have : p = j := Classical.byContradiction (fun y => by
      rw [if_neg y] at hr
      exact absurd hr (by decide))
    rw [e, this]
    exact hL
  | c + 1, p, l, K, hc, p0, pj, hr, ⟨q, l2, L2, h1, h2, h3⟩ => by
    obtain ⟨x1, x2, x3, x4⟩ := gp_cut_x hG r0 r1 (by omega) h1
    have ed : gm_s G r - ((c : Int) + 1) + 1 = gm_s G r - c := by omega
    rw [ed] at x2
    have ih := gj_kids_cv hG ht r0 r1 jz hL c q _ L2 (by omega) (by have := h1.1; omega) h1.2.1 x2 h3
    rw [h2]
    unfold gp_kid
    unfold gk_own at x1
    by_cases hn : gm_n G r (gm_s G r - ((c : Int) + 1)) = -1
    · rw [if_pos hn] at x1 ⊢
      have y : q = p + 1 ∧ p < z ∧ gb (gm_p G r (gm_s G r - ((c : Int) + 1))) (t p) := Classical.byContradiction (fun y => by
        rw [gt_ib_f y] at x1
        exact absurd x1 (by decide))
      have tp := ht p p0 y.2.1
      refine Or.inl ⟨?_, rfl, y.2.1, ?_⟩
      · show -1 - t p < 0
        omega
      · rw [← y.1]
        exact ih
    · rw [if_neg hn]
      have rg := gj_n_rng hG r0 r1 (by omega) (by omega) hn
      refine Or.inr ⟨?_, rfl, h1.1, ?_, ih⟩
      · show ¬ gm_n G r (gm_s G r - ((c : Int) + 1)) < 0
        omega
      · show q ≤ z
        have := h1.2.1
        omega
/-- the steps so far: letters in their order, rules; what is left covers the rest -/
theorem gj_run_cv (hG : gm_ok G) (ht : ∀ x, 0 ≤ x → x < z → 0 ≤ t x) (z0 : 0 ≤ z) {k : Int} : ∀ (u : Nat) (tr : Int → Int) (dp : Int) (L : List gp_nd), gp_run G z t k u tr dp L → 0 ≤ gj_nl tr u ∧ gj_nl tr u ≤ z ∧ gj_cv z t (gj_nl tr u) L ∧ (u ≠ 0 → 1 ≤ dp) ∧ ∀ x : Nat, x < u → (tr x < 0 → tr x = -1 - t (gj_nl tr x) ∧ gj_nl tr x < z) ∧ (¬ tr x < 0 → tr x < gm_R G ∧ 0 ≤ gm_o G (tr x) ∧ (x = 0 → gm_o G (tr x) = 0)) ∧ (x = 0 → ¬ tr x < 0)
  | 0, tr, dp, L, h => by
    rw [h.2]
    exact ⟨Int.le_refl _, z0, Or.inr ⟨(show ¬ (0 : Int) < 0 by decide), rfl, z0, Int.le_refl _, rfl⟩, fun y => absurd rfl y, fun x hx => by omega⟩
  | u + 1, tr, dp, L, ⟨dp0, L0, h1, h2⟩ => by
    obtain ⟨a1, a2, a3, a4, a5⟩ := gj_run_cv hG ht z0 u tr dp0 L0 h1
    obtain ⟨nd, T, eL, hs⟩ := gj_step h2
    have first : u = 0 → nd = gp_na 0 0 z 0 1 k ∧ dp0 = 0 := fun eu => by
      subst eu
      have e := h1.2
      rw [eL] at e
      exact ⟨(List.cons.inj e).1, h1.1⟩
    rw [eL] at a3
    rcases hs with ⟨s1, s2, s3, s4⟩ | ⟨s1, s2, k2, K, s3, s4, s5⟩
    · have a3 := a3.resolve_right (fun y => y.1 s1)
      have tl : tr u < 0 := by
        rw [s2]
        exact s1
      have nl : gj_nl tr (u + 1) = gj_nl tr u + 1 := by
        show gj_nl tr u + (if tr u < 0 then 1 else 0) = _
        rw [if_pos tl]
      have u0 : u ≠ 0 := fun y => by
        rw [(first y).1] at s1
        exact absurd (show (0 : Int) < 0 from s1) (by decide)
      rw [nl]
      refine ⟨by omega, by have := a3.2.2.1; omega, by rw [s4]; exact a3.2.2.2, fun _ => by rw [s3]; exact a4 u0, fun x hx => ?_⟩
      by_cases q : x = u
      · rw [q]
        refine ⟨fun _ => ⟨by rw [s2]; exact a3.2.1, a3.2.2.1⟩, fun y => absurd tl y, fun y => absurd y u0⟩
      · exact a5 x (by omega)
    · have a3 := a3.resolve_left (fun y => s1 y.1)
      obtain ⟨r0, r1, ro, rk, rk0, rk1⟩ := s3
      have tl : ¬ tr u < 0 := by omega
      have nl : gj_nl tr (u + 1) = gj_nl tr u := by
        show gj_nl tr u + (if tr u < 0 then 1 else 0) = _
        rw [if_neg tl]
        omega
      have so := (hG.2.2.2.2.1 (tr u) r0 r1)
      rw [nl]
      refine ⟨a1, a2, ?_, fun _ => ?_, fun x hx => ?_⟩
      · rw [s5, ← a3.2.1]
        exact gj_kids_cv hG ht r0 r1 a3.2.2.2.1 a3.2.2.2.2 (gm_s G (tr u)).toNat nd.2.1 k2 K (by have := so.2.2.1; omega) (by rw [a3.2.1]; exact a1) (by rw [a3.2.1]; exact a3.2.2.1) (by
          have e : gm_s G (tr u) - (((gm_s G (tr u)).toNat : Nat) : Int) = 0 := by
            have := so.2.2.1
            omega
          rw [e]
          omega) s4
      · rw [s2]
        by_cases q : u = 0
        · rw [(first q).1, (first q).2]
          show (1 : Int) ≤ max 0 1
          decide
        · have := a4 q
          omega
      · by_cases q : x = u
        · rw [q]
          refine ⟨fun y => absurd y tl, fun _ => ⟨r1, so.1, fun y => ?_⟩, fun _ => tl⟩
          rw [ro, (first y).1]
          rfl
        · exact a5 x (by omega)
theorem gj_cv_N1 : ∀ (L M : List gp_nd) (p p2 : Int), gj_l2 gj_N1 L M → gj_cv z t p L → gj_cv z t p2 M → p = p2
  | [], [], p, p2, _, h1, h2 => h1.trans h2.symm
  | a :: L, b :: M, p, p2, ⟨n1, n2⟩, h1, h2 => by
    rcases h1 with ⟨x1, x2, x3, x4⟩ | ⟨x1, x2, x3, x4, x5⟩
    · have h2 := h2.resolve_right (fun y => y.1 (by rw [← n1.1]; exact x1))
      have := gj_cv_N1 L M (p + 1) (p2 + 1) n2 x4 h2.2.2.2
      omega
    · have h2 := h2.resolve_left (fun y => x1 (by rw [n1.1]; exact y.1))
      rw [← x2, ← h2.2.1]
      exact (n1.2 x1).1
  | [], _ :: _, _, _, h, _, _ => False.elim h
  | _ :: _, [], _, _, h, _, _ => False.elim h
/-- a run's stacks -/
theorem gj_stacks {k : Int} : ∀ (u : Nat) (tr : Int → Int) (dp : Int) (L : List gp_nd), gp_run G z t k u tr dp L → ∃ Ls : Nat → List gp_nd, Ls u = L ∧ (∀ x, x ≤ u → ∃ d, gp_run G z t k x tr d (Ls x)) ∧ ∀ x, x < u → ∃ d d2, gp_step G z t (Ls x) (tr x) d d2 (Ls (x + 1))
  | 0, tr, dp, L, h => ⟨fun _ => L, rfl, fun x hx => by
      have e : x = 0 := by omega
      rw [e]
      exact ⟨dp, h⟩, fun x hx => by omega⟩
  | u + 1, tr, dp, L, ⟨dp0, L0, h1, h2⟩ => by
    obtain ⟨Ls, a1, a2, a3⟩ := gj_stacks u tr dp0 L0 h1
    have lt : ∀ x, x ≤ u → (if x ≤ u then Ls x else L) = Ls x := fun x hx => if_pos hx
    have ge : ∀ x, ¬ x ≤ u → (if x ≤ u then Ls x else L) = L := fun x hx => if_neg hx
    refine ⟨fun x => if x ≤ u then Ls x else L, ge _ (by omega), fun x hx => ?_, fun x hx => ?_⟩
    · show ∃ d, gp_run G z t k x tr d (if x ≤ u then Ls x else L)
      by_cases q : x ≤ u
      · rw [lt x q]
        exact a2 x q
      · have e : x = u + 1 := by omega
        rw [ge x q, e]
        exact ⟨dp, dp0, L0, h1, h2⟩
    · show ∃ d d2, gp_step G z t (if x ≤ u then Ls x else L) (tr x) d d2 (if x + 1 ≤ u then Ls (x + 1) else L)
      by_cases q : x < u
      · rw [lt x (by omega), lt (x + 1) (by omega)]
        exact a3 x q
      · have e : x = u := by omega
        rw [e, lt u (Nat.le_refl _), ge (u + 1) (by omega), a1]
        exact ⟨dp0, dp, h2⟩
theorem gj_cut_l {r i j A d p l q l2 : Int} (c0 : gm_n G r d = -1) (h : gp_cut G z t r i j A d p l q l2) : q = p + 1 := by
  refine Classical.byContradiction (fun y => ?_)
  obtain ⟨a1, a2, a3, a4, a5⟩ := h
  unfold gp_H gk_own at a5
  have e : p + (q - p) = q := by omega
  rw [if_pos c0, e, gt_ib_f (fun w => y w.1), Int.zero_mul] at a5
  omega
theorem gj_kid_l {r i j A lv d p q sh : Int} (c0 : gm_n G r d = -1) : gp_kid G t r i j A lv d p q sh = gp_le (-1 - t p) := if_pos c0
theorem gj_kid_n {r i j A lv d p q sh : Int} (c0 : gm_n G r d ≠ -1) : gp_kid G t r i j A lv d p q sh = gp_na (gm_n G r d) p q (if p = i ∧ q = j then A else 0) lv sh := if_neg c0
/-- the names above are the same where the letters are -/
theorem gj_kids_N2 (hG : gm_ok G) {r i j A lv lv2 : Int} (r0 : 0 ≤ r) (r1 : r < gm_R G) : ∀ (c : Nat) (p l l2 : Int) (K K2 : List gp_nd), (c : Int) ≤ gm_s G r → gp_kids G z t r i j A lv c p l K → gp_kids G z t r i j A lv2 c p l2 K2 → gj_l2 gj_N1 K K2 → gj_l2 gj_N2 K K2
  | 0, _, _, _, K, K2, _, h1, h2, _ => by
    have e1 : K = [] := h1
    have e2 : K2 = [] := h2
    rw [e1, e2]
    trivial
  | c + 1, p, l, l2, K, K2, hc, ⟨q, m1, L1, x1, x2, x3⟩, ⟨q2, m2, L2, y1, y2, y3⟩, hn1 => by
    rw [x2, y2] at hn1 ⊢
    obtain ⟨n1, n2⟩ := hn1
    by_cases c0 : gm_n G r (gm_s G r - ((c : Int) + 1)) = -1
    · have s1 := gj_cut_l c0 x1
      have s2 := gj_cut_l c0 y1
      have eq : q = q2 := s1.trans s2.symm
      subst eq
      refine ⟨?_, gj_kids_N2 hG r0 r1 c q _ _ L1 L2 (by omega) x3 y3 n2⟩
      rw [gj_kid_l c0, gj_kid_l c0]
      exact fun _ => rfl
    · have nn := gj_n_rng hG r0 r1 (by omega) (by omega) c0
      rw [gj_kid_n c0, gj_kid_n c0] at n1 ⊢
      have eq : q = q2 := (n1.2 (by show ¬ gm_n G r (gm_s G r - ((c : Int) + 1)) < 0; omega)).2
      subst eq
      exact ⟨fun _ => rfl, gj_kids_N2 hG r0 r1 c q _ _ L1 L2 (by omega) x3 y3 n2⟩
/-- the number is told by where the parts end and their numbers -/
theorem gj_kids_N3 (hG : gm_ok G) {r i j A lv lv2 : Int} (r0 : 0 ≤ r) (r1 : r < gm_R G) : ∀ (c : Nat) (p l l2 : Int) (K K2 : List gp_nd), (c : Int) ≤ gm_s G r → gp_kids G z t r i j A lv c p l K → gp_kids G z t r i j A lv2 c p l2 K2 → gj_l2 gj_N1 K K2 → gj_l2 gj_N3 K K2 → (0 ≤ l ∧ l < gk_R G z t r i j (gb A) (gm_s G r - c) p) → (0 ≤ l2 ∧ l2 < gk_R G z t r i j (gb A) (gm_s G r - c) p) → l = l2
  | 0, p, l, l2, K, K2, _, _, _, _, _, b1, b2 => by
    have e2 : gm_s G r - ((0 : Nat) : Int) = gm_s G r := by omega
    rw [e2, gk_R_e] at b1 b2
    by_cases y : p = j
    · rw [if_pos y] at b1 b2
      omega
    · rw [if_neg y] at b1
      omega
  | c + 1, p, l, l2, K, K2, hc, ⟨q, m1, L1, x1, x2, x3⟩, ⟨q2, m2, L2, y1, y2, y3⟩, hn1, hn3, b1, b2 => by
    rw [x2, y2] at hn1 hn3
    obtain ⟨n1, n2⟩ := hn1
    obtain ⟨k1, k2⟩ := hn3
    have eq : q = q2 := by
      by_cases c0 : gm_n G r (gm_s G r - ((c : Int) + 1)) = -1
      · exact (gj_cut_l c0 x1).trans (gj_cut_l c0 y1).symm
      · have nn := gj_n_rng hG r0 r1 (by omega) (by omega) c0
        rw [gj_kid_n c0, gj_kid_n c0] at n1
        exact (n1.2 (by show ¬ gm_n G r (gm_s G r - ((c : Int) + 1)) < 0; omega)).2
    subst eq
    have d0 : 0 ≤ gm_s G r - ((c : Int) + 1) := by omega
    have ed : gm_s G r - ((c : Int) + 1) + 1 = gm_s G r - c := by omega
    obtain ⟨u1, u2, u3, u4, u5, u6⟩ := gp_cut_x hG r0 r1 d0 x1
    obtain ⟨v1, v2, v3, v4, v5, v6⟩ := gp_cut_x hG r0 r1 d0 y1
    rw [ed] at u2 u3 u4 u5 u6 v2 v3 v4 v5 v6
    have em := gj_kids_N3 hG r0 r1 c q _ _ L1 L2 (by omega) x3 y3 n2 k2 ⟨u5, u6⟩ ⟨v5, v6⟩
    have ediv : m1 / gk_R G z t r i j (gb A) (gm_s G r - c) q = m2 / gk_R G z t r i j (gb A) (gm_s G r - c) q := by
      by_cases c0 : gm_n G r (gm_s G r - ((c : Int) + 1)) = -1
      · have one : gk_own G z t (gk_C G z t) r i j (gb A) (gm_s G r - ((c : Int) + 1)) p q ≤ 1 := by
          unfold gk_own
          rw [if_pos c0]
          rcases gt_ib_01 (P := q = p + 1 ∧ p < z ∧ gb (gm_p G r (gm_s G r - ((c : Int) + 1))) (t p)) with y | y
          · rw [y]
            decide
          · rw [y]
            decide
        omega
      · have nn := gj_n_rng hG r0 r1 d0 (by omega) c0
        rw [gj_kid_n c0, gj_kid_n c0] at k1
        exact k1 (by show ¬ gm_n G r (gm_s G r - ((c : Int) + 1)) < 0; omega)
    have e1 := Int.emod_add_mul_ediv m1 (gk_R G z t r i j (gb A) (gm_s G r - c) q)
    have e2 := Int.emod_add_mul_ediv m2 (gk_R G z t r i j (gb A) (gm_s G r - c) q)
    have mm : m1 = m2 := by
      rw [← e1, ← e2, em, ediv]
    rw [x1.2.2.1, y1.2.2.1, mm]
/-- trees of unlike numbers have unlike steps -/
theorem gj_inj (hG : gm_ok G) (ht : ∀ x, 0 ≤ x → x < z → 0 ≤ t x) (z0 : 0 ≤ z) {k k2 dp dp2 : Int} {tr tr2 : Int → Int} {u : Nat} (h1 : gp_run G z t k u tr dp []) (h2 : gp_run G z t k2 u tr2 dp2 []) (same : ∀ x : Nat, x < u → tr x = tr2 x) : k = k2 := by
  obtain ⟨Ls, l1, l2, l3⟩ := gj_stacks u tr dp [] h1
  obtain ⟨Ms, m1, m2, m3⟩ := gj_stacks u tr2 dp2 [] h2
  have nl : ∀ x : Nat, x ≤ u → gj_nl tr x = gj_nl tr2 x := by
    intro x
    induction x with
    | zero => exact fun _ => rfl
    | succ x ih =>
      intro hx
      show gj_nl tr x + (if tr x < 0 then 1 else 0) = gj_nl tr2 x + (if tr2 x < 0 then 1 else 0)
      rw [ih (by omega), same x (by omega)]
  have cvL : ∀ x, x ≤ u → gj_cv z t (gj_nl tr x) (Ls x) := fun x hx => by
    obtain ⟨d, hd⟩ := l2 x hx
    exact (gj_run_cv hG ht z0 x tr d _ hd).2.2.1
  have cvM : ∀ x, x ≤ u → gj_cv z t (gj_nl tr x) (Ms x) := fun x hx => by
    obtain ⟨d, hd⟩ := m2 x hx
    rw [nl x hx]
    exact (gj_run_cv hG ht z0 x tr2 d _ hd).2.2.1
  -- a step on both sides
  have both : ∀ x, x < u → ∃ nd T md S, Ls x = nd :: T ∧ Ms x = md :: S ∧ ((nd.1 < 0 ∧ md.1 = nd.1 ∧ Ls (x + 1) = T ∧ Ms (x + 1) = S) ∨ (¬ nd.1 < 0 ∧ md.1 = nd.1 ∧ ∃ a K b J, gp_rule G z t nd.1 nd.2.1 nd.2.2.1 (gh_ior_f nd.2.2.2.1 (gh_ishl_f 1 nd.1)) nd.2.2.2.2.2 (tr x) a ∧ gp_rule G z t md.1 md.2.1 md.2.2.1 (gh_ior_f md.2.2.2.1 (gh_ishl_f 1 md.1)) md.2.2.2.2.2 (tr x) b ∧ gp_kids G z t (tr x) nd.2.1 nd.2.2.1 (gh_ior_f nd.2.2.2.1 (gh_ishl_f 1 nd.1)) (nd.2.2.2.2.1 + 1) (gm_s G (tr x)).toNat nd.2.1 a K ∧ gp_kids G z t (tr x) md.2.1 md.2.2.1 (gh_ior_f md.2.2.2.1 (gh_ishl_f 1 md.1)) (md.2.2.2.2.1 + 1) (gm_s G (tr x)).toNat md.2.1 b J ∧ Ls (x + 1) = K ++ T ∧ Ms (x + 1) = J ++ S ∧ K.length = J.length)) := fun x hx => by
    obtain ⟨_, _, s1⟩ := l3 x hx
    obtain ⟨_, _, s2⟩ := m3 x hx
    obtain ⟨nd, T, e1, c1⟩ := gj_step s1
    obtain ⟨md, S, e2, c2⟩ := gj_step s2
    rw [← same x hx] at c2
    refine ⟨nd, T, md, S, e1, e2, ?_⟩
    rcases c1 with ⟨a1, a2, a3, a4⟩ | ⟨a1, a2, k2, K, a3, a4, a5⟩
    · rcases c2 with ⟨b1, b2, b3, b4⟩ | ⟨b1, b2, k3, J, b3, b4, b5⟩
      · exact Or.inl ⟨a1, b2.symm.trans a2, a4, b4⟩
      · have := b3.1
        omega
    · rcases c2 with ⟨b1, b2, b3, b4⟩ | ⟨b1, b2, k3, J, b3, b4, b5⟩
      · have := a3.1
        omega
      · exact Or.inr ⟨a1, b3.2.2.1.symm.trans a3.2.2.1, k2, K, k3, J, a3, b3, a4, b4, a5, b5, (gj_kids_len _ _ _ _ a4).trans (gj_kids_len _ _ _ _ b4).symm⟩
  -- where names lie, from the end back
  have p1 : ∀ y, y ≤ u → gj_l2 gj_N1 (Ls (u - y)) (Ms (u - y)) := by
    intro y
    induction y with
    | zero =>
      intro _
      rw [Nat.sub_zero, l1, m1]
      trivial
    | succ y ih =>
      intro hy
      have ih := ih (by omega)
      have hx : u - (y + 1) < u := by omega
      have ex : u - y = u - (y + 1) + 1 := by omega
      rw [ex] at ih
      have c1 := cvL (u - (y + 1)) (by omega)
      have c2 := cvM (u - (y + 1)) (by omega)
      obtain ⟨nd, T, md, S, e1, e2, cs⟩ := both _ hx
      rw [e1] at c1 ⊢
      rw [e2] at c2 ⊢
      rcases cs with ⟨a1, a2, a3, a4⟩ | ⟨a1, a2, a, K, b, J, _, _, _, _, a3, a4, a5⟩
      · rw [a3, a4] at ih
        exact ⟨⟨a2.symm, fun y => absurd a1 y⟩, ih⟩
      · rw [a3, a4, gj_l2_app K J a5] at ih
        have c1 := c1.resolve_left (fun y => a1 y.1)
        have c2 := c2.resolve_left (fun y => a1 (by rw [← a2]; exact y.1))
        exact ⟨⟨a2.symm, fun _ => ⟨c1.2.1.trans c2.2.1.symm, gj_cv_N1 T S _ _ ih.2 c1.2.2.2.2 c2.2.2.2.2⟩⟩, ih.2⟩
  have p1' : ∀ x, x ≤ u → gj_l2 gj_N1 (Ls x) (Ms x) := fun x hx => by
    have := p1 (u - x) (by omega)
    have e : u - (u - x) = x := by omega
    rw [e] at this
    exact this
  -- the names above, from the beginning on
  have p2 : ∀ x, x ≤ u → gj_l2 gj_N2 (Ls x) (Ms x) := by
    intro x
    induction x with
    | zero =>
      intro hx
      obtain ⟨d, hd⟩ := l2 0 hx
      obtain ⟨d2, hd2⟩ := m2 0 hx
      rw [hd.2, hd2.2]
      exact ⟨fun _ => rfl, trivial⟩
    | succ x ih =>
      intro hx
      have ih := ih (by omega)
      have n1 := p1' x (by omega)
      have n1' := p1' (x + 1) hx
      obtain ⟨nd, T, md, S, e1, e2, cs⟩ := both x (by omega)
      rw [e1, e2] at ih n1
      rcases cs with ⟨a1, a2, a3, a4⟩ | ⟨a1, a2, a, K, b, J, g1, g2, h1, h2, a3, a4, a5⟩
      · rw [a3, a4]
        exact ih.2
      · rw [a3, a4, gj_l2_app K J a5] at n1' ⊢
        obtain ⟨q1, q2⟩ := n1.1.2 a1
        have q3 := ih.1 a1
        rw [a2, ← q1, ← q2, ← q3] at h2
        exact ⟨gj_kids_N2 hG g1.1 g1.2.1 _ _ _ _ K J (by have := (hG.2.2.2.2.1 _ g1.1 g1.2.1).2.2.1; omega) h1 h2 n1'.1, ih.2⟩
  -- the numbers, from the end back
  have p3 : ∀ y, y ≤ u → gj_l2 gj_N3 (Ls (u - y)) (Ms (u - y)) := by
    intro y
    induction y with
    | zero =>
      intro _
      rw [Nat.sub_zero, l1, m1]
      trivial
    | succ y ih =>
      intro hy
      have ih := ih (by omega)
      have hx : u - (y + 1) < u := by omega
      have ex : u - y = u - (y + 1) + 1 := by omega
      rw [ex] at ih
      have n1 := p1' (u - (y + 1)) (by omega)
      have n1' := p1' (u - (y + 1) + 1) (by omega)
      have n2 := p2 (u - (y + 1)) (by omega)
      obtain ⟨nd, T, md, S, e1, e2, cs⟩ := both _ hx
      rw [e1, e2] at n1 n2 ⊢
      rcases cs with ⟨a1, a2, a3, a4⟩ | ⟨a1, a2, a, K, b, J, g1, g2, h1, h2, a3, a4, a5⟩
      · rw [a3, a4] at ih
        exact ⟨fun y => absurd a1 y, ih⟩
      · rw [a3, a4, gj_l2_app K J a5] at ih n1'
        obtain ⟨q1, q2⟩ := n1.1.2 a1
        have q3 := n2.1 a1
        rw [a2, ← q1, ← q2, ← q3] at h2 g2
        have so := (hG.2.2.2.2.1 _ g1.1 g1.2.1).2.2.1
        have ez : gm_s G (tr ((u - (y + 1) : Nat) : Int)) - (((gm_s G (tr ((u - (y + 1) : Nat) : Int))).toNat : Nat) : Int) = 0 := by omega
        have ab := gj_kids_N3 hG g1.1 g1.2.1 _ _ _ _ K J (by omega) h1 h2 n1'.1 ih.1 (by rw [ez]; exact g1.2.2.2.2) (by rw [ez]; exact g2.2.2.2.2)
        refine ⟨fun _ => ?_, ih.2⟩
        rw [g1.2.2.2.1, g2.2.2.2.1, ab]
  have fin := p3 u (Nat.le_refl _)
  rw [Nat.sub_self] at fin
  obtain ⟨d, hd⟩ := l2 0 (Nat.zero_le _)
  obtain ⟨d2, hd2⟩ := m2 0 (Nat.zero_le _)
  rw [hd.2, hd2.2] at fin
  exact fin.1 (show ¬ (0 : Int) < 0 by decide)
end G25
