/-! THE PROPER GRAMMAR: the class's rows -/
/-- the class's rows are those that P says, at most B of them -/
def gy_ci (G : gm_G) (P : Int → List Int → Prop) (B : Int) (m : gh_M) : Prop := gy_tb G (m 59) (m 58 7) ∧ (0 ≤ m 58 10 ∧ m 58 10 ≤ B) ∧ (∀ a b, 0 ≤ a → a < m 58 10 → 0 ≤ b → b < m 58 10 → m 60 a = m 60 b → a = b) ∧ (∀ a, 0 ≤ a → a < m 58 10 → ∃ L, gy_ok G L ∧ L.length ≤ 4 ∧ L ≠ [] ∧ ¬ gy_un L ∧ gy_en (m 59) (m 58 7) L (m 60 a) ∧ gbs (gm_N G).toNat (m 61 a) ∧ ∀ n, 0 ≤ n → (gb (m 61 a) n ↔ P n L)) ∧ (∀ n L, P n L → ¬ gy_un L → ∃ a, 0 ≤ a ∧ a < m 58 10 ∧ gy_en (m 59) (m 58 7) L (m 60 a)) ∧ (∀ n, 0 ≤ n → n < gm_N G → gbs (gm_N G).toNat (m 62 n) ∧ ∀ k, 0 ≤ k → (gb (m 62 n) k ↔ P n [-1 - k]))
theorem gy_ci_cg {G : gm_G} {P P2 : Int → List Int → Prop} {B B2 : Int} {m : gh_M} (e : ∀ n L, P n L ↔ P2 n L) (hB : B ≤ B2) (h : gy_ci G P B m) : gy_ci G P2 B2 m := by
  have : P = P2 := funext (fun n => funext (fun L => propext (e n L)))
  rw [← this]
  obtain ⟨h1, h2, h3⟩ := h
  exact ⟨h1, ⟨h2.1, by omega⟩, h3⟩
/-- the sets alone have grown -/
theorem gy_ci_t {G : gm_G} {P : Int → List Int → Prop} {B : Int} {m m2 : gh_M} (h : gy_ci G P B m) (hx : gx [58, 59] m m2) (o : ∀ y, y ≠ 7 → m2 58 y = m 58 y) (c : m 58 7 ≤ m2 58 7) (e : ∀ a, 0 ≤ a → a < m 58 7 → m2 59 a = m 59 a) (tb : gy_tb G (m2 59) (m2 58 7)) : gy_ci G P B m2 := by
  obtain ⟨h1, h2, h3, h4, h5, h6⟩ := h
  unfold gy_ci
  rw [o 10 (by decide), hx 60 (by decide), hx 61 (by decide), hx 62 (by decide)]
  refine ⟨tb, h2, h3, fun a a0 a1 => ?_, fun n L p u => ?_, h6⟩
  · obtain ⟨L, l1, l2, l3, l4, l5, l6⟩ := h4 a a0 a1
    exact ⟨L, l1, l2, l3, l4, gy_en_up c e L _ l5, l6⟩
  · obtain ⟨a, a0, a1, a2⟩ := h5 n L p u
    exact ⟨a, a0, a1, gy_en_up c e L _ a2⟩
theorem gy_addRow {G : gm_G} {P : Int → List Int → Prop} {B : Int} {m : gh_M} {Q : Int → gh_M → Prop} {x n : Int} {L : List Int} (hG : gm_ok G) (ci : gy_ci G P B m) (B3 : B < 320) (n0 : 0 ≤ n) (n1 : n < gm_N G) (okL : gy_ok G L) (len : L.length ≤ 4) (ne : L ≠ []) (nu : ¬ gy_un L) (en : gy_en (m 59) (m 58 7) L x) (H : ∀ m2, gx [58, 60, 61] m m2 → (∀ y, y ≠ 10 → m2 58 y = m 58 y) → gy_ci G (fun n' L' => P n' L' ∨ (n' = n ∧ L' = L)) (B + 1) m2 → Q 0 m2) : w_Proper_addRow x n m Q := by
  have hN := hG.2.1
  obtain ⟨tb, ⟨q0, q1⟩, inj, each, all, uni⟩ := ci
  have c8 := gy_tb_80 tb
  have unit : ∀ k n', (P n' [-1 - k] ↔ P n' [-1 - k] ∨ (n' = n ∧ [-1 - k] = L)) ∨ k < 0 := fun k n' => by
    by_cases c : k < 0
    · exact Or.inr c
    · exact Or.inl ⟨Or.inl, fun y => y.elim id (fun y => absurd ⟨-1 - k, y.2.symm, by omega⟩ nu)⟩
  refine ⟨fun v => 0 ≤ v ∧ v ≤ m 58 10 ∧ ∀ a, 0 ≤ a → a < v → m 60 a ≠ x, fun v => (400 - v).toNat, ⟨Int.le_refl _, q0, fun a y z => by omega⟩, ?_⟩
  rintro v ⟨v0, v1, hv⟩
  unfold f_Proper_addRow_2
  refine ⟨fun c => ⟨v0, by omega, fun e => ⟨v0, by omega, v0, by omega, ?_⟩, fun e => ⟨by omega, ⟨by omega, by omega, fun a a0 a1 => ?_⟩, by (try dsimp only); omega⟩⟩, fun c => ⟨fun c2 => ⟨q0, c2, q0, c2, by omega, ?_⟩, fun c2 => by omega⟩⟩
  · -- it is there
    obtain ⟨L2, l1, l2, l3, l4, l5, l6, l7⟩ := each v v0 c
    rw [e] at l5
    have eL := gy_en_L c8 L2 L x (gy_ok_p hG l1) (gy_ok_p hG okL) l5 en
    have b1 : gbs (gm_N G).toNat (gh_ishl_f 1 n) := gbs_one n0 (by omega) (by omega)
    obtain ⟨m2, hm2⟩ : ∃ m2, m2 = gh_u m 61 v (gh_ior_f (m 61 v) (gh_ishl_f 1 n)) := ⟨_, rfl⟩
    rw [← hm2]
    have hx : gx [61] m m2 := by
      rw [hm2]
      exact gx_one _ _ _ _
    refine H m2 (gx_sub hx (by decide)) (fun y _ => by rw [hx 58 (by decide)]) ?_
    unfold gy_ci
    rw [hx 58 (by decide), hx 59 (by decide), hx 60 (by decide), hx 62 (by decide)]
    refine ⟨tb, ⟨q0, by omega⟩, inj, fun a a0 a1 => ?_, fun n' L' p u => ?_, fun n' a b => ⟨(uni n' a b).1, fun k k0 => ?_⟩⟩
    · by_cases u : a = v
      · refine ⟨L, okL, len, ne, nu, by rw [u, e]; exact en, ?_, fun n' n0' => ?_⟩
        · rw [u, hm2, gh_u_s]
          exact gbs_or (by omega) l6 b1
        · rw [u, hm2, gh_u_s, gb_ior (by omega) l6 b1, l7 n' n0', eL, gb_ishl1 n0 (by omega) n0']
          exact ⟨fun y => y.imp id (fun z => ⟨z, rfl⟩), fun y => y.imp id (fun z => z.1)⟩
      · obtain ⟨L3, k1, k2, k3, k4, k5, k6, k7⟩ := each a a0 a1
        have e61 : m2 61 a = m 61 a := by
          rw [hm2, gh_u_i u]
        rw [e61]
        refine ⟨L3, k1, k2, k3, k4, k5, k6, fun n' n0' => ?_⟩
        rw [k7 n' n0']
        refine ⟨Or.inl, fun y => y.elim id (fun z => ?_)⟩
        rw [z.2] at k5
        have := gy_en_x tb.2.1 L _ _ k5 en
        exact absurd (inj a v a0 a1 v0 c (this.trans e.symm)) u
    · rcases p with p | ⟨p1, p2⟩
      · exact all n' L' p u
      · rw [p2]
        exact ⟨v, v0, c, by rw [e]; exact en⟩
    · rw [(uni n' a b).2 k k0]
      exact (unit k n').elim id (fun y => by omega)
  · by_cases u : a = v
    · rw [u]
      exact e
    · exact hv a a0 (by omega)
  · -- a new one
    obtain ⟨m2, hm2⟩ : ∃ m2, m2 = gh_u (gh_u (gh_u m 60 (m 58 10) x) 61 (m 58 10) (gh_ishl_f 1 n)) 58 10 (m 58 10 + 1) := ⟨_, rfl⟩
    rw [← hm2]
    have hx : gx [58, 60, 61] m m2 := by
      rw [hm2]
      exact gx_u (gx_u (gx_u gx_rf (by decide)) (by decide)) (by decide)
    have o : ∀ y, y ≠ 10 → m2 58 y = m 58 y := fun y yn => by
      rw [hm2, gh_u_i yn, gh_u_a (by decide), gh_u_a (by decide)]
    have e10 : m2 58 10 = m 58 10 + 1 := by
      rw [hm2, gh_u_s]
    have e60 : ∀ a, a ≠ m 58 10 → m2 60 a = m 60 a := fun a u => by
      rw [hm2, gh_u_a (by decide), gh_u_a (by decide), gh_u_i u]
    have e60s : m2 60 (m 58 10) = x := by
      rw [hm2, gh_u_a (by decide), gh_u_a (by decide), gh_u_s]
    have e61 : ∀ a, a ≠ m 58 10 → m2 61 a = m 61 a := fun a u => by
      rw [hm2, gh_u_a (by decide), gh_u_i u, gh_u_a (by decide)]
    have e61s : m2 61 (m 58 10) = gh_ishl_f 1 n := by
      rw [hm2, gh_u_a (by decide), gh_u_s]
    clear hm2
    have non : ∀ a, 0 ≤ a → a < m 58 10 → m 60 a ≠ x := fun a a0 a1 => hv a a0 (by omega)
    refine H m2 hx o ?_
    unfold gy_ci
    rw [o 7 (by decide), e10, hx 59 (by decide), hx 62 (by decide)]
    refine ⟨tb, ⟨by omega, by omega⟩, fun a b a0 a1 b0 b1 e => ?_, fun a a0 a1 => ?_, fun n' L' p u => ?_, fun n' a b => ⟨(uni n' a b).1, fun k k0 => ?_⟩⟩
    · by_cases qa : a = m 58 10
      · by_cases qb : b = m 58 10
        · omega
        · rw [qa, e60s, e60 b qb] at e
          exact absurd e.symm (non b b0 (by omega))
      · by_cases qb : b = m 58 10
        · rw [qb, e60s, e60 a qa] at e
          exact absurd e (non a a0 (by omega))
        · rw [e60 a qa, e60 b qb] at e
          exact inj a b a0 (by omega) b0 (by omega) e
    · by_cases u : a = m 58 10
      · rw [u, e60s, e61s]
        refine ⟨L, okL, len, ne, nu, en, gbs_one n0 (by omega) (by omega), fun n' n0' => ?_⟩
        rw [gb_ishl1 n0 (by omega) n0']
        refine ⟨fun y => Or.inr ⟨y, rfl⟩, fun y => y.elim (fun z => ?_) (fun z => z.1)⟩
        obtain ⟨b, b0, b1, b2⟩ := all n' L z nu
        exact absurd (gy_en_x tb.2.1 L _ _ b2 en) (non b b0 b1)
      · rw [e60 a u, e61 a u]
        obtain ⟨L3, k1, k2, k3, k4, k5, k6, k7⟩ := each a a0 (by omega)
        refine ⟨L3, k1, k2, k3, k4, k5, k6, fun n' n0' => ?_⟩
        rw [k7 n' n0']
        refine ⟨Or.inl, fun y => y.elim id (fun z => ?_)⟩
        rw [z.2] at k5
        exact absurd (gy_en_x tb.2.1 L _ _ k5 en) (non a a0 (by omega))
    · rcases p with p | ⟨p1, p2⟩
      · obtain ⟨b, b0, b1, b2⟩ := all n' L' p u
        exact ⟨b, b0, by omega, by rw [e60 b (by omega)]; exact b2⟩
      · rw [p2]
        exact ⟨m 58 10, q0, by omega, by rw [e60s]; exact en⟩
    · rw [(uni n' a b).2 k k0]
      exact (unit k n').elim id (fun y => by omega)
/-- the rows of the rules before r, and of r of the first w ways to leave parts out -/
def gy_pk (G : gm_G) (E : Int) (U V : Int → Prop) (r w n : Int) (L : List Int) : Prop := ∃ q v, 0 ≤ q ∧ q < gm_R G ∧ 0 ≤ v ∧ v < ((2 ^ (gm_s G q).toNat : Nat) : Int) ∧ (q < r ∨ (q = r ∧ v < w)) ∧ gm_o G q = n ∧ U q ∧ V n ∧ gy_can G E q (fun x => ¬ gb v x) ∧ L = gy_sel G q (fun x => ¬ gb v x) (gm_s G q).toNat ∧ L ≠ []
theorem gy_pk_s {G : gm_G} {E : Int} {U V : Int → Prop} {r w : Int} (r0 : 0 ≤ r) (r1 : r < gm_R G) (w0 : 0 ≤ w) (w1 : w < ((2 ^ (gm_s G r).toNat : Nat) : Int)) (n : Int) (L : List Int) : gy_pk G E U V r (w + 1) n L ↔ gy_pk G E U V r w n L ∨ (gm_o G r = n ∧ U r ∧ V n ∧ gy_can G E r (fun x => ¬ gb w x) ∧ L = gy_sel G r (fun x => ¬ gb w x) (gm_s G r).toNat ∧ L ≠ []) := by
  constructor
  · rintro ⟨q, v, a1, a2, a3, a4, a5, a6⟩
    by_cases c : q = r ∧ v = w
    · rw [c.1, c.2] at a6
      exact Or.inr a6
    · exact Or.inl ⟨q, v, a1, a2, a3, a4, by omega, a6⟩
  · rintro (⟨q, v, a1, a2, a3, a4, a5, a6⟩ | a6)
    · exact ⟨q, v, a1, a2, a3, a4, by omega, a6⟩
    · exact ⟨r, w, r0, r1, w0, w1, by omega, a6⟩
theorem gy_pk_n {G : gm_G} {E : Int} {U V : Int → Prop} {r w : Int} (hw : ((2 ^ (gm_s G r).toNat : Nat) : Int) ≤ w) (n : Int) (L : List Int) : gy_pk G E U V r w n L ↔ gy_pk G E U V (r + 1) 0 n L := by
  constructor
  · rintro ⟨q, v, a1, a2, a3, a4, a5, a6⟩
    exact ⟨q, v, a1, a2, a3, a4, by omega, a6⟩
  · rintro ⟨q, v, a1, a2, a3, a4, a5, a6⟩
    refine ⟨q, v, a1, a2, a3, a4, ?_, a6⟩
    rcases a5 with a5 | a5
    · by_cases c : q = r
      · rw [c] at a4
        omega
      · omega
    · omega
/-- a rule that adds nothing -/
theorem gy_pk_no {G : gm_G} {E : Int} {U V : Int → Prop} {r : Int} (h : ¬ (U r ∧ V (gm_o G r))) (n : Int) (L : List Int) : gy_pk G E U V r 0 n L ↔ gy_pk G E U V (r + 1) 0 n L := by
  constructor
  · rintro ⟨q, v, a1, a2, a3, a4, a5, a6⟩
    exact ⟨q, v, a1, a2, a3, a4, by omega, a6⟩
  · rintro ⟨q, v, a1, a2, a3, a4, a5, a6, a7, a8, a9⟩
    refine ⟨q, v, a1, a2, a3, a4, ?_, a6, a7, a8, a9⟩
    by_cases c : q = r
    · rw [c] at a6 a7
      rw [← a6] at a8
      exact absurd ⟨a7, a8⟩ h
    · omega
theorem gy_msk : ∀ s : Nat, s ≤ 4 → ∀ w : Nat, w < 16 → ∃ v : Nat, v < 2 ^ s ∧ ∀ d : Nat, d < s → (w.testBit d = !v.testBit d) := by decide
theorem gy_msk2 : ∀ s : Nat, s ≤ 4 → ∀ v : Nat, v < 16 → ∃ w : Nat, w < 16 ∧ ∀ d : Nat, d < s → (w.testBit d = !v.testBit d) := by decide
/-- all rows -/
theorem gy_pk_e {G : gm_G} (hG : gm_ok G) {E : Int} {U V : Int → Prop} (n : Int) (L : List Int) : gy_pk G E U V (gm_R G) 0 n L ↔ gy_lf G E U V n L := by
  have tr : ∀ (q v w : Int) (s : Nat), (s : Int) = gm_s G q → 0 ≤ v → 0 ≤ w → (∀ d : Nat, d < s → (w.toNat.testBit d = !v.toNat.testBit d)) → (gy_can G E q (gb w) ↔ gy_can G E q (fun x => ¬ gb v x)) ∧ gy_sel G q (gb w) s = gy_sel G q (fun x => ¬ gb v x) s := by
    intro q v w s hs v0 w0 h
    have e : ∀ x : Int, 0 ≤ x → x < s → (gb w x ↔ ¬ gb v x) := fun x x0 x1 => by
      have := h x.toNat (by omega)
      unfold gb
      rw [this]
      cases v.toNat.testBit x.toNat <;> decide
    refine ⟨⟨fun y d d0 d1 => (y d d0 d1).imp (e d d0 (by omega)).mp id, fun y d d0 d1 => (y d d0 d1).imp (e d d0 (by omega)).mpr id⟩, gy_sel_cg s e⟩
  constructor
  · rintro ⟨q, v, a1, a2, a3, a4, a5, a6, a7, a8, a9, a10, a11⟩
    have s4 := (hG.2.2.2.2.1 q a1 a2).2.2
    have v16 : v < 16 := by
      have : 2 ^ (gm_s G q).toNat ≤ 2 ^ 4 := Nat.pow_le_pow_right (by decide) (by omega)
      omega
    obtain ⟨w, w1, w2⟩ := gy_msk2 (gm_s G q).toNat (by omega) v.toNat (by omega)
    obtain ⟨t1, t2⟩ := tr q v w (gm_s G q).toNat (by omega) a3 (by omega) (by
      rw [Int.toNat_natCast]
      exact w2)
    exact ⟨q, w, a1, a2, a6, a7, a8, by omega, by omega, t1.mpr a9, a10.trans t2.symm, a11⟩
  · rintro ⟨q, w, a1, a2, a3, a4, a5, a6, a7, a8, a9, a10⟩
    have s4 := (hG.2.2.2.2.1 q a1 a2).2.2
    obtain ⟨v, v1, v2⟩ := gy_msk (gm_s G q).toNat (by omega) w.toNat (by omega)
    obtain ⟨t1, t2⟩ := tr q v w (gm_s G q).toNat (by omega) (by omega) a6 (by
      rw [Int.toNat_natCast]
      exact v2)
    exact ⟨q, v, a1, a2, by omega, by omega, Or.inl a2, a3, a4, a5, t1.mp a8, a9.trans t2, a10⟩
theorem gy_addRows {G : gm_G} {E : Int} {U V : Int → Prop} {B : Int} {m : gh_M} {Q : Int → gh_M → Prop} {r : Int} (hG : gm_ok G) (hC : gm_C m G) (hE : gbs 31 (m 20 1)) (eE : m 20 1 = E) (r0 : 0 ≤ r) (r1 : r < gm_R G) (hU : U r) (hV : V (gm_o G r)) (ci : gy_ci G (gy_pk G E U V r 0) B m) (B3 : B ≤ 304) (H : ∀ m2, gx [58, 59, 60, 61, 62] m m2 → (∀ y, y ≠ 7 → y ≠ 10 → m2 58 y = m 58 y) → gy_ci G (gy_pk G E U V (r + 1) 0) (B + 16) m2 → Q 0 m2) : w_Proper_addRows r m Q := by
  have hN := hG.2.1
  have hR := hG.2.2.2.1
  obtain ⟨p1, p2, p3, p4, p5⟩ := hG.2.2.2.2.1 r r0 r1
  have sh : gh_ishl_f 1 (gm_s G r) = ((2 ^ (gm_s G r).toNat : Nat) : Int) := gb_one p3 (by omega)
  have s16 : 2 ^ (gm_s G r).toNat ≤ 2 ^ 4 := Nat.pow_le_pow_right (by decide) (by omega)
  refine ⟨fun w m1 => 0 ≤ w ∧ w ≤ ((2 ^ (gm_s G r).toNat : Nat) : Int) ∧ gx [58, 59, 60, 61, 62] m m1 ∧ (∀ y, y ≠ 7 → y ≠ 10 → m1 58 y = m 58 y) ∧ gy_ci G (gy_pk G E U V r w) (B + w) m1, fun w _ => (20 - w).toNat, ⟨Int.le_refl _, Int.natCast_nonneg _, gx_rf, fun _ _ _ => rfl, gy_ci_cg (fun _ _ => Iff.rfl) (by omega) ci⟩, ?_⟩
  rintro w m1 ⟨w0, w1, hx1, o1, ci1⟩
  have cm1 := gm_C_x hx1 (by decide) hC
  unfold f_Proper_addRows_2
  rw [(cm1.2.2 r r0 r1).2.1, sh]
  refine ⟨r0, by omega, fun c => ?_, fun c => ?_⟩
  rotate_left
  · refine H m1 hx1 o1 (gy_ci_cg (fun n L => gy_pk_n (by omega) n L) (by omega) ci1)
  have w31 : gbs 31 w := ⟨w0, by omega⟩
  -- the row, part by part
  refine ⟨fun x f d m2 => 0 ≤ d ∧ d ≤ gm_s G r ∧ gx [58, 59, 60, 61, 62] m m2 ∧ (∀ y, y ≠ 7 → y ≠ 10 → m2 58 y = m 58 y) ∧ gy_ci G (gy_pk G E U V r w) (B + w) m2 ∧ gy_en (m2 59) (m2 58 7) (gy_sel G r (fun x => ¬ gb w x) d.toNat) x ∧ (f = 0 ∨ f = 1) ∧ (f = 1 ↔ ∀ e, 0 ≤ e → e < d → (¬ gb w e) ∨ (gm_n G r e ≠ -1 ∧ gb E (gm_n G r e))), fun x f d _ => (10 - d).toNat, ⟨Int.le_refl _, p3, hx1, o1, ci1, rfl, Or.inr rfl, fun _ e a b => by omega, fun _ => rfl⟩, ?_⟩
  rintro x f d m2 ⟨d0, d1, hx2, o2, ci2, en, f01, hf⟩
  have cm2 := gm_C_x hx2 (by decide) hC
  have e20 : m2 20 = m 20 := hx2 20 (by decide)
  have c8 := gy_tb_80 ci2.1
  have okL : ∀ d : Nat, (d : Int) ≤ gm_s G r → gy_ok G (gy_sel G r (fun x => ¬ gb w x) d) := fun d hd => gy_sel_ok hG r0 r1 hd
  have xnn := gy_en_nn c8 _ x (gy_ok_p hG (okL d.toNat (by omega))) en
  have lenL := gy_sel_len (G := G) (r := r) (b := fun x => ¬ gb w x) d.toNat
  have ed : ((d.toNat : Nat) : Int) = d := by omega
  unfold f_Proper_addRows_25
  rw [(cm2.2.2 r r0 r1).2.1]
  refine ⟨r0, by omega, fun c2 => ?_, fun c2 => ?_⟩
  · have xlt := (gy_en_lt c8 (gy_ok_p hG (okL d.toNat (by omega))) en (by omega)).2 (by omega)
    have es : (d + 1).toNat = d.toNat + 1 := by omega
    refine ⟨fun x' f' m' => 0 ≤ d + 1 ∧ d + 1 ≤ gm_s G r ∧ gx [58, 59, 60, 61, 62] m m' ∧ (∀ y, y ≠ 7 → y ≠ 10 → m' 58 y = m 58 y) ∧ gy_ci G (gy_pk G E U V r w) (B + w) m' ∧ gy_en (m' 59) (m' 58 7) (gy_sel G r (fun x => ¬ gb w x) (d + 1).toNat) x' ∧ (f' = 0 ∨ f' = 1) ∧ (f' = 1 ↔ ∀ e, 0 ≤ e → e < d + 1 → (¬ gb w e) ∨ (gm_n G r e ≠ -1 ∧ gb E (gm_n G r e))), fun x' f' m' y => ⟨by omega, y, by (try dsimp only); omega⟩, fun t => ?_, fun t => ?_⟩
    · -- it is kept
      have nb : ¬ gb w d := (gb_test0 w31 d0 (by omega)).mp t
      obtain ⟨kk, xx⟩ := gm_partAt hG cm2 r0 r1 d0 c2
      refine ⟨by omega, kk, ?_⟩
      rw [xx]
      refine gy_digitOf hG r0 r1 d0 c2 ci2.1 (fun m3 y hx3 o3 c3 e3 tb3 dg => ?_)
      have yb := gy_dg_b (gy_tb_80 tb3) (gy_ok_p hG (okL (d.toNat + 1) (by omega)) _ (by
        rw [gy_sel_t (by rw [ed]; exact nb), ed]
        exact List.mem_cons_self)) dg
      refine ⟨by omega, ?_⟩
      rintro x' hx'
      refine ⟨by omega, by omega, gx_t hx2 (gx_sub hx3 (by decide)), fun z a b => by rw [o3 z a]; exact o2 z a b, gy_ci_t ci2 hx3 o3 c3 e3 tb3, ?_, f01, ?_⟩
      · rw [es, gy_sel_t (by rw [ed]; exact nb)]
        refine ⟨x, y, gy_en_up c3 e3 _ _ en, ?_, hx'⟩
        rw [ed]
        exact dg
      · rw [hf]
        refine ⟨fun z e a b => ?_, fun z e a b => z e a (by omega)⟩
        by_cases u : e = d
        · rw [u]
          exact Or.inl nb
        · exact z e a (by omega)
    · -- it is left out
      have nb : gb w d := Classical.byContradiction (fun y => t ((gb_test0 w31 d0 (by omega)).mpr y))
      obtain ⟨kn, xn⟩ := gm_nameAt hG cm2 r0 r1 d0 c2
      refine ⟨kn, ?_⟩
      rw [xn]
      intro v6 hv6
      rw [hv6, e20, eE]
      clear hv6 v6
      intro v4 hv4
      have nn := gm_n_rng hG r0 r1 d0 c2
      have tst : gm_n G r d ≠ -1 → (gh_iand_f (gh_ishr_f E (gm_n G r d)) 1 = 0 ↔ ¬ gb E (gm_n G r d)) := fun y => gb_test0 (by rw [← eE]; exact hE) (by omega) (by omega)
      have v01 : (v4 = 0 ∨ v4 = 1) ∧ (v4 = 1 ↔ f = 1 ∧ (gm_n G r d ≠ -1 ∧ gb E (gm_n G r d))) := by
        by_cases u : gm_n G r d ≠ -1 ∧ gb E (gm_n G r d)
        · rcases f01 with y | y
          · have nc : ¬ (¬ (f = 0) ∧ (¬ (gm_n G r d = -1) ∧ (¬ (gh_iand_f (gh_ishr_f E (gm_n G r d)) 1 = 0)))) := fun z => z.1 y
            rw [if_neg nc] at hv4
            exact ⟨Or.inl hv4, by omega, fun w => absurd w.1 (by omega)⟩
          · have nc : ¬ (f = 0) ∧ (¬ (gm_n G r d = -1) ∧ (¬ (gh_iand_f (gh_ishr_f E (gm_n G r d)) 1 = 0))) := ⟨by omega, u.1, fun z => (tst u.1).mp z u.2⟩
            rw [if_pos nc] at hv4
            exact ⟨Or.inr hv4, fun _ => ⟨y, u⟩, fun _ => hv4⟩
        · have nc : ¬ (¬ (f = 0) ∧ (¬ (gm_n G r d = -1) ∧ (¬ (gh_iand_f (gh_ishr_f E (gm_n G r d)) 1 = 0)))) := fun y => u ⟨y.2.1, Classical.byContradiction (fun w => y.2.2 ((tst y.2.1).mpr w))⟩
          rw [if_neg nc] at hv4
          exact ⟨Or.inl hv4, by omega, fun w => absurd w.2 u⟩
      refine ⟨by omega, by omega, hx2, o2, ci2, ?_, v01.1, ?_⟩
      · rw [es, gy_sel_f (by rw [ed]; exact fun y => y nb)]
        exact en
      · rw [v01.2, hf]
        refine ⟨fun z e a b => ?_, fun z => ⟨fun e a b => z e a (by omega), ?_⟩⟩
        · by_cases u : e = d
          · rw [u]
            exact Or.inr z.2
          · exact z.1 e a (by omega)
        · exact (z d d0 (by omega)).elim (fun y => absurd nb y) id
  -- the row is whole
  have e1 : d = gm_s G r := by omega
  rw [e1] at en hf lenL xnn
  have can : f = 1 ↔ gy_can G E r (fun x => ¬ gb w x) := hf
  obtain ⟨L, hL⟩ : ∃ L, L = gy_sel G r (fun x => ¬ gb w x) (gm_s G r).toNat := ⟨_, rfl⟩
  rw [← hL] at en lenL xnn
  have ok1 : gy_ok G L := by
    rw [hL]
    exact okL _ (by omega)
  have un := gy_en_un c8 (gy_ok_p hG ok1) en
  have eo := (cm2.2.2 r r0 r1).1
  have stp := gy_pk_s (E := E) (U := U) (V := V) r0 r1 w0 (by omega : w < ((2 ^ (gm_s G r).toNat : Nat) : Int))
  have same : ¬ (f = 1 ∧ L ≠ []) → ∀ n' L', gy_pk G E U V r w n' L' ↔ gy_pk G E U V r (w + 1) n' L' := fun y n' L' => by
    rw [stp n' L']
    refine ⟨Or.inl, fun z => z.elim id (fun z => absurd ⟨can.mpr z.2.2.2.1, ?_⟩ y)⟩
    rw [hL, ← z.2.2.2.2.1]
    exact z.2.2.2.2.2
  have more : f = 1 → L ≠ [] → ∀ n' L', (gy_pk G E U V r w n' L' ∨ (n' = gm_o G r ∧ L' = L)) ↔ gy_pk G E U V r (w + 1) n' L' := fun y ne n' L' => by
    rw [stp n' L']
    constructor
    · rintro (z | ⟨z1, z2⟩)
      · exact Or.inl z
      · exact Or.inr ⟨z1.symm, hU, by rw [z1]; exact hV, can.mp y, z2.trans hL, by rw [z2]; exact ne⟩
    · rintro (z | z)
      · exact Or.inl z
      · exact Or.inr ⟨z.1.symm, z.2.2.2.2.1.trans hL.symm⟩
  have xL : L ≠ [] ↔ 1 ≤ x := ⟨xnn.2, fun y z => by
    rw [z] at en
    have : x = 0 := en
    omega⟩
  have fin : ∀ m3, gx [58, 59, 60, 61, 62] m m3 → (∀ y, y ≠ 7 → y ≠ 10 → m3 58 y = m 58 y) → gy_ci G (gy_pk G E U V r (w + 1)) (B + (w + 1)) m3 → gh_i (w + 1) ∧ (fun w m1 => 0 ≤ w ∧ w ≤ ((2 ^ (gm_s G r).toNat : Nat) : Int) ∧ gx [58, 59, 60, 61, 62] m m1 ∧ (∀ y, y ≠ 7 → y ≠ 10 → m1 58 y = m 58 y) ∧ gy_ci G (gy_pk G E U V r w) (B + w) m1) (w + 1) m3 ∧ (fun (w : Int) (_ : gh_M) => (20 - w).toNat) (w + 1) m3 < (fun (w : Int) (_ : gh_M) => (20 - w).toNat) w m1 := fun m3 a b cc =>
    ⟨by omega, ⟨by omega, by omega, a, b, cc⟩, by (try dsimp only); omega⟩
  refine ⟨fun m3 => gx [58, 59, 60, 61, 62] m m3 ∧ (∀ y, y ≠ 7 → y ≠ 10 → m3 58 y = m 58 y) ∧ gy_ci G (gy_pk G E U V r (w + 1)) (B + (w + 1)) m3, fun m3 y => fin m3 y.1 y.2.1 y.2.2, ¬ (1 ≤ x ∧ x ≤ 8 ∧ f = 1), fun nu => ⟨fun y => ?_, fun y => ?_⟩, fun y => by omega, fun y => ?_⟩
  · exact ⟨hx2, o2, gy_ci_cg (same (by rw [xL]; omega)) (by omega) ci2⟩
  · rw [eo]
    have f1 : f = 1 := by omega
    have x1 : 1 ≤ x := by omega
    refine ⟨r0, by omega, gy_addRow hG ci2 (by omega) p1 p2 ok1 (by omega) (xL.mpr x1) (fun z => nu ?_) en (fun m3 hx3 o3 ci3 => ⟨gx_t hx2 (gx_sub hx3 (by decide)), fun z a b => by rw [o3 z b]; exact o2 z a b, gy_ci_cg (more f1 (xL.mpr x1)) (by omega) ci3⟩)⟩
    have := un.mpr z
    omega
  · -- a unit
    rw [eo]
    have f1 : f = 1 := by omega
    have x1 : 1 ≤ x ∧ x ≤ 8 := by omega
    obtain ⟨p, hp, p0⟩ := un.mp x1
    have xp : x = -p := by
      rw [hp] at en
      exact gy_en_1 p0 en
    obtain ⟨u1, u2⟩ := ci2.2.2.2.2.2 (gm_o G r) p1 p2
    have pN := ok1 p (by rw [hp]; exact List.mem_cons_self)
    have b1 : gbs (gm_N G).toNat (gh_ishl_f 1 (x - 1)) := gbs_one (by omega) (by omega) (by omega)
    refine ⟨r0, by omega, p1, by omega, by omega, p1, by omega, ?_⟩
    obtain ⟨m3, hm3⟩ : ∃ m3, m3 = gh_u m2 62 (gm_o G r) (gh_ior_f (m2 62 (gm_o G r)) (gh_ishl_f 1 (x - 1))) := ⟨_, rfl⟩
    rw [← hm3]
    have hx3 : gx [62] m2 m3 := by
      rw [hm3]
      exact gx_one _ _ _ _
    refine ⟨gx_t hx2 (gx_sub hx3 (by decide)), fun z a b => by rw [hx3 58 (by decide)]; exact o2 z a b, gy_ci_cg (more f1 (xL.mpr x1.1)) (Int.le_refl (B + (w + 1))) ?_⟩
    obtain ⟨t1, t2, t3, t4, t5, t6⟩ := ci2
    unfold gy_ci
    rw [hx3 58 (by decide), hx3 59 (by decide), hx3 60 (by decide), hx3 61 (by decide)]
    refine ⟨t1, ⟨t2.1, by omega⟩, t3, fun a a0 a1 => ?_, fun n' L' z nu => ?_, fun n' n0' n1' => ?_⟩
    · obtain ⟨L3, k1, k2, k3, k4, k5, k6, k7⟩ := t4 a a0 a1
      refine ⟨L3, k1, k2, k3, k4, k5, k6, fun n' n0' => ?_⟩
      rw [k7 n' n0']
      exact ⟨Or.inl, fun z => z.elim id (fun z => absurd (by rw [z.2]; exact un.mp x1) k4)⟩
    · rcases z with z | z
      · exact t5 n' L' z nu
      · exact absurd (by rw [z.2]; exact un.mp x1) nu
    · by_cases q : n' = gm_o G r
      · rw [q, hm3, gh_u_s]
        refine ⟨gbs_or (by omega) u1 b1, fun k k0 => ?_⟩
        rw [gb_ior (by omega) u1 b1, u2 k k0, gb_ishl1 (by omega) (by omega) k0, hp]
        refine ⟨fun z => z.imp id (fun z => ⟨rfl, ?_⟩), fun z => z.imp id (fun z => ?_)⟩
        · rw [z, xp]
          have : -1 - (-p - 1) = p := by omega
          rw [this]
        · injection z.2 with e _
          omega
      · rw [hm3, gh_u_i q]
        refine ⟨(t6 n' n0' n1').1, fun k k0 => ?_⟩
        rw [(t6 n' n0' n1').2 k k0]
        exact ⟨Or.inl, fun z => z.elim id (fun z => absurd z.1 q)⟩
