/-! THE PROPER GRAMMAR: the model's rows -/
/-- the parts from a place on, the last one first -/
def gy_pre (pa : Int → Int) (b : Int) : Nat → List Int
  | 0 => []
  | d + 1 => pa (b + d) :: gy_pre pa b d
theorem gy_pre_len {pa : Int → Int} {b : Int} : ∀ n : Nat, (gy_pre pa b n).length = n
  | 0 => rfl
  | n + 1 => by
    show (gy_pre pa b n).length + 1 = n + 1
    rw [gy_pre_len n]
theorem gy_pre_mem {pa : Int → Int} {b p : Int} : ∀ n : Nat, p ∈ gy_pre pa b n ↔ ∃ d : Int, 0 ≤ d ∧ d < n ∧ pa (b + d) = p
  | 0 => ⟨fun y => absurd y List.not_mem_nil, fun ⟨d, d0, d1, _⟩ => by omega⟩
  | n + 1 => by
    have ih := gy_pre_mem (pa := pa) (b := b) (p := p) n
    show p ∈ pa (b + n) :: gy_pre pa b n ↔ _
    rw [List.mem_cons, ih]
    constructor
    · rintro (y | ⟨d, d0, d1, y⟩)
      · exact ⟨n, by omega, by omega, y.symm⟩
      · exact ⟨d, d0, by omega, y⟩
    · rintro ⟨d, d0, d1, y⟩
      by_cases u : d = n
      · rw [u] at y
        exact Or.inl y.symm
      · exact Or.inr ⟨d, d0, by omega, y⟩
theorem gy_pre_eq {pa pa2 : Int → Int} {b b2 : Int} : ∀ n : Nat, gy_pre pa b n = gy_pre pa2 b2 n ↔ ∀ d : Int, 0 ≤ d → d < n → pa (b + d) = pa2 (b2 + d)
  | 0 => ⟨fun _ d d0 d1 => by omega, fun _ => rfl⟩
  | n + 1 => by
    have ih := gy_pre_eq (pa := pa) (pa2 := pa2) (b := b) (b2 := b2) n
    constructor
    · intro h d d0 d1
      have h' : pa (b + n) :: gy_pre pa b n = pa2 (b2 + n) :: gy_pre pa2 b2 n := h
      injection h' with h1 h2
      by_cases u : d = n
      · rw [u]
        exact h1
      · exact ih.mp h2 d d0 (by omega)
    · intro h
      show pa (b + n) :: gy_pre pa b n = pa2 (b2 + n) :: gy_pre pa2 b2 n
      rw [h n (by omega) (by omega), ih.mpr (fun d d0 d1 => h d d0 (by omega))]
def gy_mr (m : gh_M) (k : Int) : List Int := gy_pre (m 90) (4 * k) (m 89 k).toNat
theorem gy_mr_cg {m m2 : gh_M} {k : Int} (h1 : m2 89 k = m 89 k) (h2 : ∀ d, 0 ≤ d → d < m 89 k → m2 90 (4 * k + d) = m 90 (4 * k + d)) : gy_mr m2 k = gy_mr m k := by
  unfold gy_mr
  rw [h1]
  exact (gy_pre_eq _).mpr (fun d d0 d1 => h2 d d0 (by omega))
theorem gy_mr_mem {m : gh_M} {k p : Int} (h : 0 ≤ m 89 k) : p ∈ gy_mr m k ↔ ∃ d, 0 ≤ d ∧ d < m 89 k ∧ m 90 (4 * k + d) = p := by
  unfold gy_mr
  rw [gy_pre_mem]
  constructor
  · rintro ⟨d, d0, d1, y⟩
    exact ⟨d, d0, by omega, y⟩
  · rintro ⟨d, d0, d1, y⟩
    exact ⟨d, d0, by omega, y⟩
theorem gy_rowOf {G : gm_G} {m : gh_M} {Q : Int → gh_M → Prop} {r w : Int} (hG : gm_ok G) (hD : gm_D m G) (r0 : 0 ≤ r) (r1 : r < gm_R G) (hw : gbs 31 w) (q0 : 0 ≤ m 63 42) (q1 : m 63 42 < 320) (sz : ∀ a, 0 ≤ a → a < m 63 42 → 0 ≤ m 89 a ∧ m 89 a ≤ 4) (H : ∀ m2 k, gx [63, 89, 90] m m2 → (∀ y, y ≠ 42 → m2 63 y = m 63 y) → (∀ a, a < m 63 42 → m2 89 a = m 89 a) → (∀ x, x < 4 * m 63 42 → m2 90 x = m 90 x) → 0 ≤ k → ((k < m 63 42 ∧ m2 63 42 = m 63 42) ∨ (k = m 63 42 ∧ m2 63 42 = m 63 42 + 1 ∧ ∀ a, 0 ≤ a → a < m 63 42 → gy_mr m a ≠ gy_sel G r (gb w) (gm_s G r).toNat)) → gy_mr m2 k = gy_sel G r (gb w) (gm_s G r).toNat → 0 ≤ m2 89 k ∧ m2 89 k ≤ 4 → Q k m2) : w_Model_rowOf r w m Q := by
  have hR := hG.2.2.2.1
  obtain ⟨p1, p2, p3, p4, p5⟩ := hG.2.2.2.2.1 r r0 r1
  refine ⟨fun n d m1 => 0 ≤ n ∧ n ≤ d ∧ d ≤ gm_s G r ∧ gx [90] m m1 ∧ (∀ x, x < 4 * m 63 42 → m1 90 x = m 90 x) ∧ gy_pre (m1 90) (4 * m 63 42) n.toNat = gy_sel G r (gb w) d.toNat, fun n d _ => (10 - d).toNat, ⟨Int.le_refl _, Int.le_refl _, p3, gx_rf, fun _ _ => rfl, rfl⟩, ?_⟩
  rintro n d m1 ⟨n0, nd, d1, hx, o, e⟩
  obtain ⟨eo, es, ep⟩ := (gm_D_x hx (by decide) hD).2.2 r r0 r1
  have e63 : m1 63 = m 63 := hx 63 (by decide)
  have ed : ((d.toNat : Nat) : Int) = d := by omega
  unfold f_Model_rowOf_5
  rw [es, e63]
  refine ⟨r0, by omega, fun c => ?_, fun c => ⟨q0, q1, ?_⟩⟩
  · have ed1 : (d + 1).toNat = d.toNat + 1 := by omega
    refine ⟨fun n' m' => 0 ≤ n' ∧ n' ≤ d + 1 ∧ d + 1 ≤ gm_s G r ∧ gx [90] m m' ∧ (∀ x, x < 4 * m 63 42 → m' 90 x = m 90 x) ∧ gy_pre (m' 90) (4 * m 63 42) n'.toNat = gy_sel G r (gb w) (d + 1).toNat, fun n' m' y => ⟨by omega, y, by (try dsimp only); omega⟩, fun t => ?_, fun t => ?_⟩
    · have b := (gb_test1 hw (by omega) (by omega)).mp t
      rw [ep d (by omega) c]
      refine ⟨by omega, by omega, by omega, by omega, by omega, by omega, by omega, by omega, by omega, by omega, by omega, by omega, gx_u hx (by decide), fun x x1 => ?_, ?_⟩
      · rw [gh_u_i (by omega)]
        exact o x x1
      · have en1 : (n + 1).toNat = n.toNat + 1 := by omega
        have en : ((n.toNat : Nat) : Int) = n := by omega
        rw [ed1, gy_sel_t (by rw [ed]; exact b), en1, ed]
        show gh_u m1 90 (4 * m 63 42 + n) (gm_p G r d) 90 (4 * m 63 42 + ((n.toNat : Nat) : Int)) :: gy_pre _ _ n.toNat = _
        rw [en, gh_u_s, ← e]
        congr 1
        exact (gy_pre_eq _).mpr (fun x x0 x1 => gh_u_i (by omega))
    · have b : ¬ gb w d := fun y => t ((gb_test1 hw (by omega) (by omega)).mpr y)
      refine ⟨n0, by omega, by omega, hx, o, ?_⟩
      rw [ed1, gy_sel_f (by rw [ed]; exact b)]
      exact e
  have ed2 : d = gm_s G r := by omega
  rw [ed2] at e
  obtain ⟨L, hL⟩ : ∃ L, L = gy_sel G r (gb w) (gm_s G r).toNat := ⟨_, rfl⟩
  rw [← hL] at e H
  obtain ⟨m2, hm2⟩ : ∃ m2, m2 = gh_u m1 89 (m 63 42) n := ⟨_, rfl⟩
  rw [← hm2]
  have hx2 : gx [89, 90] m m2 := by
    rw [hm2]
    exact gx_u (gx_sub hx (by decide)) (by decide)
  have e89 : ∀ a, a < m 63 42 → m2 89 a = m 89 a := fun a a1 => by
    rw [hm2, gh_u_i (by omega), hx 89 (by decide)]
  have e89q : m2 89 (m 63 42) = n := by
    rw [hm2, gh_u_s]
  have e90 : m2 90 = m1 90 := by
    rw [hm2]
    exact gx_one _ _ _ _ 90 (by decide)
  have o90 : ∀ x, x < 4 * m 63 42 → m2 90 x = m 90 x := fun x x1 => by
    rw [e90]
    exact o x x1
  have old : ∀ a, 0 ≤ a → a < m 63 42 → gy_mr m2 a = gy_mr m a := fun a a0 a1 => gy_mr_cg (e89 a a1) (fun x x0 x1 => o90 _ (by have := sz a a0 a1; omega))
  have new : gy_mr m2 (m 63 42) = L := by
    unfold gy_mr
    rw [e89q, e90]
    exact e
  have e63' : m2 63 = m 63 := hx2 63 (by decide)
  clear hm2
  refine ⟨fun k => 0 ≤ k ∧ k ≤ m 63 42 ∧ ∀ a, 0 ≤ a → a < k → gy_mr m a ≠ L, fun k => (400 - k).toNat, ⟨Int.le_refl _, q0, fun a x y => by omega⟩, ?_⟩
  rintro k ⟨k0, k1, hk⟩
  unfold f_Model_rowOf_72
  rw [e63']
  refine ⟨fun c2 => ⟨k0, by omega, ?_⟩, fun c2 => ⟨by omega, by omega, ?_⟩⟩
  · have szk := sz k k0 c2
    rw [e89 k c2]
    intro v5 hv5
    refine ⟨fun v x => 0 ≤ x ∧ (x = 0 ∨ x ≤ n) ∧ (v = 0 ∨ v = 1) ∧ (v = 1 ↔ m 89 k = n ∧ ∀ d, 0 ≤ d → d < x → m2 90 (4 * k + d) = m2 90 (4 * m 63 42 + d)), fun v x => (10 - x).toNat, ⟨Int.le_refl _, Or.inl rfl, by rw [hv5]; exact gh_ib01, ?_⟩, ?_⟩
    · rw [hv5]
      by_cases u : m 89 k = n
      · rw [if_pos u]
        exact ⟨fun _ => ⟨u, fun d a b => by omega⟩, fun _ => rfl⟩
      · rw [if_neg u]
        exact ⟨fun y => absurd y (by decide), fun y => absurd y.1 u⟩
    rintro v x ⟨x0, x1, v01, hv⟩
    unfold f_Model_rowOf_102
    rw [e63']
    refine ⟨fun v' => (v' = 0 ∨ v' = 1) ∧ (v' = 1 ↔ gy_mr m k = L), fun v' y => ⟨fun z => ⟨by omega, ⟨by omega, by omega, fun a a0 a1 => ?_⟩, by (try dsimp only); omega⟩, fun z => ?_⟩, fun c3 => ⟨v01, ?_⟩, fun c3 => ⟨by omega, by omega, by omega, by omega, by omega, by omega, by omega, by omega, ?_⟩⟩
    · by_cases u : a = k
      · rw [u]
        intro w2
        have := y.2.mpr w2
        omega
      · exact hk a a0 (by omega)
    · have v1 : v' = 1 := by omega
      have eL := y.2.mp v1
      refine H m2 k (gx_sub hx2 (by decide)) (fun y _ => by rw [e63']) e89 o90 k0 (Or.inl ⟨c2, by rw [e63']⟩) ?_ ?_
      · rw [old k k0 c2]
        exact eL
      · rw [e89 k c2]
        exact szk
    · rw [hv]
      constructor
      · rintro ⟨y1, y2⟩
        have vn : ¬ v = 0 := fun z => by
          have := hv.mpr ⟨y1, y2⟩
          omega
        have xn : ¬ x < n := by
          rcases c3 with c3 | c3
          · exact c3
          · exact absurd c3 vn
        rw [← old k k0 c2, ← new]
        unfold gy_mr
        rw [e89 k c2, e89q, y1]
        exact (gy_pre_eq _).mpr (fun d a b => y2 d a (by omega))
      · intro y
        rw [← old k k0 c2, ← new] at y
        have ln := congrArg List.length y
        unfold gy_mr at y ln
        rw [gy_pre_len, gy_pre_len, e89 k c2, e89q] at ln
        have en : m 89 k = n := by omega
        refine ⟨en, fun d a b => ?_⟩
        rw [e89 k c2, e89q, en] at y
        refine (gy_pre_eq _).mp y d a ?_
        rcases x1 with x1 | x1
        · omega
        · omega
    · intro v' hv'
      have c4 : x < n ∧ ¬ v = 0 := by
        refine ⟨?_, ?_⟩
        · exact Classical.byContradiction (fun y => c3 (Or.inl y))
        · exact fun y => c3 (Or.inr y)
      have vv := hv.mp (by omega)
      refine ⟨by omega, ⟨by omega, Or.inr (by omega), by rw [hv']; exact gh_ib01, ?_⟩, by (try dsimp only); omega⟩
      rw [hv']
      by_cases u : m2 90 (4 * k + x) = m2 90 (4 * m 63 42 + x)
      · rw [if_pos u]
        refine ⟨fun _ => ⟨vv.1, fun d a b => ?_⟩, fun _ => rfl⟩
        by_cases q : d = x
        · rw [q]
          exact u
        · exact vv.2 d a (by omega)
      · rw [if_neg u]
        exact ⟨fun y => absurd y (by decide), fun y => absurd (y.2 x x0 (by omega)) u⟩
  · have ee : m 63 42 + 1 - 1 = m 63 42 := by omega
    rw [ee]
    have hx3 : gx [63] m2 (gh_u m2 63 42 (m 63 42 + 1)) := gx_one _ _ _ _
    refine H _ (m 63 42) (gx_t (gx_sub hx2 (by decide)) (gx_sub hx3 (by decide))) (fun y yn => by rw [gh_u_i yn, e63']) (fun a a1 => by rw [gh_u_a (by decide)]; exact e89 a a1) (fun x x1 => by rw [gh_u_a (by decide)]; exact o90 x x1) q0 (Or.inr ⟨rfl, by rw [gh_u_s], fun a a0 a1 => hk a a0 (by omega)⟩) ?_ ?_
    · rw [← new]
      exact gy_mr_cg (gh_u_a (by decide)) (fun d _ _ => gh_u_a (by decide))
    · rw [gh_u_a (by decide), e89q]
      omega
theorem gy_canLeave {G : gm_G} {E : Int} {m : gh_M} {Q : Int → Prop} {r w : Int} (hG : gm_ok G) (hD : gm_D m G) (hE : ∀ n, 0 ≤ n → n < gm_N G → (m 82 n = 0 ↔ gb E n)) (r0 : 0 ≤ r) (r1 : r < gm_R G) (hw : gbs 31 w) (H : ∀ v, (v = 0 ∨ v = 1) → (v = 1 ↔ 0 < w ∧ gy_can G E r (gb w)) → Q v) : w_Model_canLeave r w m Q := by
  have hN := hG.2.1
  have hR := hG.2.2.2.1
  obtain ⟨p1, p2, p3, p4, p5⟩ := hG.2.2.2.2.1 r r0 r1
  obtain ⟨eo, es, ep⟩ := hD.2.2 r r0 r1
  intro v3 hv3
  refine ⟨fun v d => 0 ≤ d ∧ d ≤ gm_s G r ∧ (v = 0 ∨ v = 1) ∧ (v = 1 ↔ 0 < w ∧ ∀ e, 0 ≤ e → e < d → gb w e ∨ (gm_n G r e ≠ -1 ∧ gb E (gm_n G r e))), fun v d => (10 - d).toNat, ⟨Int.le_refl _, p3, by rw [hv3]; exact gh_ib01, ?_⟩, ?_⟩
  · rw [hv3]
    by_cases u : w ≤ 0
    · rw [if_neg (fun y => y u)]
      exact ⟨fun y => absurd y (by decide), fun y => by omega⟩
    · rw [if_pos u]
      exact ⟨fun _ => ⟨by omega, fun e a b => by omega⟩, fun _ => rfl⟩
  rintro v d ⟨d0, d1, v01, hv⟩
  unfold f_Model_canLeave_13
  rw [es]
  refine ⟨r0, by omega, fun c => ?_, fun c => ⟨v01, H v v01 ?_⟩⟩
  · have pn := gm_p_n hG r0 r1 d0 c
    have tst := gb_test1 hw d0 (by omega : d < 32)
    rw [ep d d0 c]
    refine ⟨by omega, by omega, by omega, by omega, ?_⟩
    intro v5 hv5
    rw [hv5]
    clear hv5 v5
    refine ⟨fun _ _ y => by omega, ?_⟩
    intro v' hv'
    refine ⟨by omega, ⟨by omega, by omega, by rw [hv']; exact gh_ib01, ?_⟩, by (try dsimp only); omega⟩
    have key : (gh_iand_f (gh_ishr_f w d) 1 = 1 ∨ (gm_p G r d < 0 ∧ m 82 (-1 - gm_p G r d) = 0)) ↔ (gb w d ∨ (gm_n G r d ≠ -1 ∧ gb E (gm_n G r d))) := by
      rw [tst]
      refine or_congr Iff.rfl ?_
      rcases pn with ⟨y1, y2, y3, y4⟩ | ⟨y1, y2, y3⟩
      · rw [← y2, hE _ y3 y4]
        exact ⟨fun z => ⟨by omega, z.2⟩, fun z => ⟨y1, z.2⟩⟩
      · exact ⟨fun z => by omega, fun z => absurd y3 z.1⟩
    rw [hv']
    by_cases u : ¬ v = 0 ∧ (gh_iand_f (gh_ishr_f w d) 1 = 1 ∨ (gm_p G r d < 0 ∧ m 82 (-1 - gm_p G r d) = 0))
    · rw [if_pos u]
      have vv := hv.mp (by omega)
      refine ⟨fun _ => ⟨vv.1, fun e a b => ?_⟩, fun _ => rfl⟩
      by_cases q : e = d
      · rw [q]
        exact key.mp u.2
      · exact vv.2 e a (by omega)
    · rw [if_neg u]
      refine ⟨fun y => absurd y (by decide), fun y => absurd ⟨fun z => ?_, key.mpr (y.2 d d0 (by omega))⟩ u⟩
      have := hv.mpr ⟨y.1, fun e a b => y.2 e a (by omega)⟩
      omega
  · rw [hv]
    have e : d = gm_s G r := by omega
    rw [e]
    rfl
