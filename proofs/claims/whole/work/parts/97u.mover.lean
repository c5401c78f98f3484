/-! THE PROPER GRAMMAR: the model lays rows and goes over them -/
def gy_pm (G : gm_G) (E : Int) (U V : Int → Prop) (r w n : Int) (L : List Int) : Prop := ∃ q v, 0 ≤ q ∧ q < gm_R G ∧ 1 ≤ v ∧ v < ((2 ^ (gm_s G q).toNat : Nat) : Int) ∧ (q < r ∨ (q = r ∧ v < w)) ∧ gm_o G q = n ∧ U q ∧ V n ∧ gy_can G E q (gb v) ∧ L = gy_sel G q (gb v) (gm_s G q).toNat
theorem gy_pm_s {G : gm_G} {E : Int} {U V : Int → Prop} {r w : Int} (r0 : 0 ≤ r) (r1 : r < gm_R G) (w0 : 1 ≤ w) (w1 : w < ((2 ^ (gm_s G r).toNat : Nat) : Int)) (n : Int) (L : List Int) : gy_pm G E U V r (w + 1) n L ↔ gy_pm G E U V r w n L ∨ (gm_o G r = n ∧ U r ∧ V n ∧ gy_can G E r (gb w) ∧ L = gy_sel G r (gb w) (gm_s G r).toNat) := by
  constructor
  · rintro ⟨q, v, a1, a2, a3, a4, a5, a6⟩
    by_cases c : q = r ∧ v = w
    · rw [c.1, c.2] at a6
      exact Or.inr a6
    · exact Or.inl ⟨q, v, a1, a2, a3, a4, by omega, a6⟩
  · rintro (⟨q, v, a1, a2, a3, a4, a5, a6⟩ | a6)
    · exact ⟨q, v, a1, a2, a3, a4, by omega, a6⟩
    · exact ⟨r, w, r0, r1, w0, w1, by omega, a6⟩
theorem gy_pm_n {G : gm_G} {E : Int} {U V : Int → Prop} {r w : Int} (hw : ((2 ^ (gm_s G r).toNat : Nat) : Int) ≤ w ∨ ¬ (U r ∧ V (gm_o G r))) (n : Int) (L : List Int) : gy_pm G E U V r w n L ↔ gy_pm G E U V (r + 1) 1 n L := by
  constructor
  · rintro ⟨q, v, a1, a2, a3, a4, a5, a6⟩
    exact ⟨q, v, a1, a2, a3, a4, by omega, a6⟩
  · rintro ⟨q, v, a1, a2, a3, a4, a5, a6, a7, a8, a9⟩
    refine ⟨q, v, a1, a2, a3, a4, ?_, a6, a7, a8, a9⟩
    by_cases c : q = r
    · rcases hw with hw | hw
      · rw [c] at a4
        omega
      · rw [c] at a6 a7
        rw [← a6] at a8
        exact absurd ⟨a7, a8⟩ hw
    · omega
theorem gy_msk3 : ∀ s : Nat, s ≤ 4 → ∀ w : Nat, w < 16 → ∃ v : Nat, v < 2 ^ s ∧ ∀ d : Nat, d < s → (w.testBit d = v.testBit d) := by decide
theorem gy_msk4 : ∀ s : Nat, s ≤ 4 → ∀ v : Nat, v < 16 → v < 2 ^ s → v ≠ 0 → ∃ d : Nat, d < s ∧ v.testBit d = true := by decide
theorem gy_pm_e {G : gm_G} (hG : gm_ok G) {E : Int} {U V : Int → Prop} (n : Int) (L : List Int) : gy_pm G E U V (gm_R G) 1 n L ↔ gy_lf G E U V n L := by
  constructor
  · rintro ⟨q, v, a1, a2, a3, a4, a5, a6, a7, a8, a9, a10⟩
    have s4 := (hG.2.2.2.2.1 q a1 a2).2.2
    have v16 : v < 16 := by
      have : 2 ^ (gm_s G q).toNat ≤ 2 ^ 4 := Nat.pow_le_pow_right (by decide) (by omega)
      omega
    refine ⟨q, v, a1, a2, a6, a7, a8, by omega, v16, a9, a10, fun y => ?_⟩
    obtain ⟨d, d1, d2⟩ := gy_msk4 (gm_s G q).toNat (by omega) v.toNat (by omega) (by omega) (by omega)
    rw [a10] at y
    refine gy_sel_nil _ y d (by omega) (by omega) ?_
    unfold gb
    rw [Int.toNat_natCast]
    exact d2
  · rintro ⟨q, w, a1, a2, a3, a4, a5, a6, a7, a8, a9, a10⟩
    have s4 := (hG.2.2.2.2.1 q a1 a2).2.2
    obtain ⟨v, v1, v2⟩ := gy_msk3 (gm_s G q).toNat (by omega) w.toNat (by omega)
    have e : ∀ x : Int, 0 ≤ x → x < (gm_s G q).toNat → (gb w x ↔ gb (v : Int) x) := fun x x0 x1 => by
      have := v2 x.toNat (by omega)
      unfold gb
      rw [Int.toNat_natCast, this]
    have es := gy_sel_cg (G := G) (r := q) (gm_s G q).toNat e
    have vn : v ≠ 0 := fun y => by
      rw [a9, es, y] at a10
      refine a10 ?_
      have : ∀ k : Nat, gy_sel G q (gb ((0 : Nat) : Int)) k = [] := by
        intro k
        induction k with
        | zero => rfl
        | succ k ih =>
          exact (gy_sel_f (b := gb ((0 : Nat) : Int)) (fun y => gb_0 (k : Int) y)).trans ih
      exact this _
    exact ⟨q, v, a1, a2, by omega, by omega, Or.inl a2, a3, a4, a5, fun d d0 d1 => (a8 d d0 d1).imp (e d d0 (by omega)).mp id, a9.trans es⟩
/-- the model's rows are those that P says, at most B of them -/
def gy_mi (G : gm_G) (P : Int → List Int → Prop) (B : Int) (m : gh_M) : Prop := (0 ≤ m 63 42 ∧ m 63 42 ≤ B) ∧ (∀ a, 0 ≤ a → a < m 63 42 → (0 ≤ m 89 a ∧ m 89 a ≤ 4) ∧ gy_ok G (gy_mr m a)) ∧ (∀ a b, 0 ≤ a → a < m 63 42 → 0 ≤ b → b < m 63 42 → gy_mr m a = gy_mr m b → a = b) ∧ (∀ x, 0 ≤ x → x < 2560 → m 91 x = 0 ∨ m 91 x = 1) ∧ (∀ n a, 0 ≤ n → n < 8 → 0 ≤ a → a < 320 → m 91 (320 * n + a) ≠ 0 → a < m 63 42 ∧ P n (gy_mr m a)) ∧ ∀ n L, P n L → ∃ a, 0 ≤ a ∧ a < m 63 42 ∧ gy_mr m a = L ∧ m 91 (320 * n + a) ≠ 0
theorem gy_mi_cg {G : gm_G} {P P2 : Int → List Int → Prop} {B B2 : Int} {m : gh_M} (e : ∀ n L, P n L ↔ P2 n L) (hB : B ≤ B2) (h : gy_mi G P B m) : gy_mi G P2 B2 m := by
  have : P = P2 := funext (fun n => funext (fun L => propext (e n L)))
  rw [← this]
  obtain ⟨h1, h2⟩ := h
  exact ⟨⟨h1.1, by omega⟩, h2⟩
theorem gy_layRows {G : gm_G} {E : Int} {U V : Int → Prop} {m : gh_M} {Q : Int → gh_M → Prop} (hG : gm_ok G) (hD : gm_D m G) (hE : ∀ n, 0 ≤ n → n < gm_N G → (m 82 n = 0 ↔ gb E n)) (hU : ∀ r, 0 ≤ r → r < gm_R G → (m 83 r ≠ 0 ↔ U r)) (hV : ∀ n, 0 ≤ n → n < gm_N G → (m 85 n ≠ 0 ↔ V n)) (H : ∀ m2, gx [63, 89, 90, 91, 92] m m2 → (∀ y, y ≠ 42 → m2 63 y = m 63 y) → (∀ x, 0 ≤ x → x < 2560 → m2 92 x = 0) → gy_mi G (gy_lf G E U V) 320 m2 → Q 0 m2) : w_Model_layRows m Q := by
  have hN0 := hG.1
  have hN := hG.2.1
  have hR0 := hG.2.2.1
  have hR := hG.2.2.2.1
  obtain ⟨mm, hmm⟩ : ∃ mm, mm = gh_u m 63 42 0 := ⟨_, rfl⟩
  have xm : gx [63] m mm := by
    rw [hmm]
    exact gx_one _ _ _ _
  have om : ∀ y, y ≠ 42 → mm 63 y = m 63 y := fun y yn => by
    rw [hmm, gh_u_i yn]
  have m42 : mm 63 42 = 0 := by
    rw [hmm, gh_u_s]
  unfold w_Model_layRows
  rw [← hmm]
  clear hmm
  refine ⟨fun k m1 => 0 ≤ k ∧ k ≤ 2560 ∧ gx [91, 92] mm m1 ∧ ∀ x, 0 ≤ x → x < k → m1 91 x = 0 ∧ m1 92 x = 0, fun k _ => (3000 - k).toNat, ⟨Int.le_refl _, by decide, gx_rf, fun x a b => by omega⟩, ?_⟩
  rintro k m1 ⟨k0, k1, hx, hk⟩
  unfold f_Model_layRows_7
  refine ⟨fun c => ⟨k0, by omega, k0, by omega, by omega, ⟨by omega, by omega, gx_u (gx_u hx (by decide)) (by decide), fun x x0 x1 => ?_⟩, by (try dsimp only); omega⟩, fun c => ?_⟩
  · by_cases u : x = k
    · rw [u, gh_u_a (by decide), gh_u_s, gh_u_s]
      exact ⟨rfl, rfl⟩
    · rw [gh_u_a (by decide), gh_u_i u, gh_u_i u, gh_u_a (by decide)]
      exact hk x x0 (by omega)
  have x1 : gx [63, 91, 92] m m1 := gx_t (gx_sub xm (by decide)) (gx_sub hx (by decide))
  have o1 : ∀ y, y ≠ 42 → m1 63 y = m 63 y := fun y yn => by
    rw [hx 63 (by decide)]
    exact om y yn
  have m142 : m1 63 42 = 0 := by
    rw [hx 63 (by decide)]
    exact m42
  have no : ∀ n L, ¬ gy_pm G E U V 0 1 n L := fun n L ⟨q, v, a1, a2, a3, a4, a5, _⟩ => by omega
  have z0 : gy_mi G (gy_pm G E U V 0 1) 0 m1 := by
    unfold gy_mi
    rw [m142]
    refine ⟨⟨Int.le_refl _, Int.le_refl _⟩, fun a a0 a1 => by omega, fun a b a0 a1 => by omega, fun x x0 x1 => Or.inl (hk x x0 (by omega)).1, fun n a n0 n1 a0 a1 y => absurd (hk (320 * n + a) (by omega) (by omega)).1 y, fun n L y => absurd y (no n L)⟩
  have hk92 : ∀ x, 0 ≤ x → x < 2560 → m1 92 x = 0 := fun x x0 x1 => (hk x x0 (by omega)).2
  clear hk c k0 k1 m142 no hx m42 om xm
  refine ⟨fun r m2 => 0 ≤ r ∧ r ≤ gm_R G ∧ gx [63, 89, 90, 91, 92] m m2 ∧ (∀ y, y ≠ 42 → m2 63 y = m 63 y) ∧ (∀ x, 0 ≤ x → x < 2560 → m2 92 x = 0) ∧ gy_mi G (gy_pm G E U V r 1) (16 * r) m2, fun r _ => (30 - r).toNat, ⟨Int.le_refl _, hR0, gx_sub x1 (by decide), o1, hk92, z0⟩, ?_⟩
  clear z0 hk92 o1 x1
  rintro r m2 ⟨r0, r1, hx2, o2, z2, mi2⟩
  have dk : ∀ m3 : gh_M, gx [63, 89, 90, 91, 92] m m3 → (∀ y, y ≠ 42 → m3 63 y = m 63 y) → gm_D m3 G := fun m3 hx o => by
    obtain ⟨d1, d2, d3⟩ := hD
    refine ⟨by rw [o 26 (by decide)]; exact d1, by rw [o 27 (by decide)]; exact d2, ?_⟩
    rw [hx 79 (by decide), hx 80 (by decide), hx 81 (by decide)]
    exact d3
  unfold f_Model_layRows_36
  rw [(dk m2 hx2 o2).2.1]
  refine ⟨fun c => ?_, fun c => ?_⟩
  rotate_left
  · have e : r = gm_R G := by omega
    rw [e] at mi2
    exact H m2 hx2 o2 z2 (gy_mi_cg (gy_pm_e hG) (by omega) mi2)
  obtain ⟨p1, p2, p3, p4, p5⟩ := hG.2.2.2.2.1 r r0 c
  have sh : gh_ishl_f 1 (gm_s G r) = ((2 ^ (gm_s G r).toNat : Nat) : Int) := gb_one p3 (by omega)
  have s16 : 2 ^ (gm_s G r).toNat ≤ 2 ^ 4 := Nat.pow_le_pow_right (by decide) (by omega)
  refine ⟨fun w m3 => 1 ≤ w ∧ w ≤ 16 ∧ gx [63, 89, 90, 91, 92] m m3 ∧ (∀ y, y ≠ 42 → m3 63 y = m 63 y) ∧ (∀ x, 0 ≤ x → x < 2560 → m3 92 x = 0) ∧ gy_mi G (gy_pm G E U V r w) (16 * r + w - 1) m3, fun w _ => (30 - w).toNat, ⟨Int.le_refl _, by decide, hx2, o2, z2, gy_mi_cg (fun _ _ => Iff.rfl) (by omega) mi2⟩, ?_⟩
  clear hx2 o2 z2 mi2
  rintro w m3 ⟨w0, w1, hx3, o3, z3, mi3⟩
  have D3 := dk m3 hx3 o3
  obtain ⟨eo, es, ep⟩ := D3.2.2 r r0 c
  have e83 : m3 83 = m 83 := hx3 83 (by decide)
  have e85 : m3 85 = m 85 := hx3 85 (by decide)
  unfold f_Model_layRows_46
  rw [es, sh, eo, e83, e85]
  refine ⟨r0, by omega, fun m4 => gx [63, 89, 90, 91, 92] m m4 ∧ (∀ y, y ≠ 42 → m4 63 y = m 63 y) ∧ (∀ x, 0 ≤ x → x < 2560 → m4 92 x = 0) ∧ gy_mi G (gy_pm G E U V (r + 1) 1) (16 * (r + 1)) m4, fun m4 y => ⟨by omega, ⟨by omega, by omega, y⟩, by (try dsimp only); omega⟩, fun _ => ⟨r0, by omega, fun _ => ⟨r0, by omega, p1, by omega⟩⟩, fun t => ⟨hx3, o3, z3, gy_mi_cg (gy_pm_n ?_) (by omega) mi3⟩, fun t => ?_⟩
  · rcases t with t | t | t
    · exact Or.inl (by omega)
    · exact Or.inr (fun y => (hU r r0 c).mpr y.1 t)
    · exact Or.inr (fun y => (hV _ p1 p2).mpr y.2 t)
  have t1 : w < ((2 ^ (gm_s G r).toNat : Nat) : Int) := Classical.byContradiction (fun y => t (Or.inl y))
  have t2 : U r := (hU r r0 c).mp (fun y => t (Or.inr (Or.inl y)))
  have t3 : V (gm_o G r) := (hV _ p1 p2).mp (fun y => t (Or.inr (Or.inr y)))
  have w31 : gbs 31 w := ⟨by omega, by omega⟩
  have e82 : m3 82 = m 82 := hx3 82 (by decide)
  refine gy_canLeave (E := E) hG D3 (by rw [e82]; exact hE) r0 c w31 (fun v v01 hv => ?_)
  have stp := gy_pm_s (E := E) (U := U) (V := V) r0 c w0 t1
  refine ⟨fun m4 => gx [63, 89, 90, 91, 92] m m4 ∧ (∀ y, y ≠ 42 → m4 63 y = m 63 y) ∧ (∀ x, 0 ≤ x → x < 2560 → m4 92 x = 0) ∧ gy_mi G (gy_pm G E U V r (w + 1)) (16 * r + (w + 1) - 1) m4, fun m4 y => ⟨by omega, ⟨by omega, by omega, y⟩, by (try dsimp only); omega⟩, fun u => ⟨hx3, o3, z3, gy_mi_cg (fun n L => ?_) (by omega) mi3⟩, fun u => ?_⟩
  · rw [stp n L]
    refine ⟨Or.inl, fun y => y.elim id (fun z => ?_)⟩
    have := hv.mpr ⟨by omega, z.2.2.2.1⟩
    omega
  have can := (hv.mp (by omega)).2
  obtain ⟨⟨q0, q1⟩, each, inj, b01, snd, cmp⟩ := mi3
  refine gy_rowOf hG D3 r0 c w31 q0 (by omega) (fun a a0 a1 => (each a a0 a1).1) (fun m4 k hx4 o4 e89 e90 k0 kk rk szk => ?_)
  have e79 : m4 79 r = gm_o G r := by
    rw [hx4 79 (by decide)]
    exact eo
  rw [e79]
  have kq : k < m4 63 42 ∧ m3 63 42 ≤ m4 63 42 ∧ m4 63 42 ≤ m3 63 42 + 1 := by
    rcases kk with ⟨y1, y2⟩ | ⟨y1, y2, _⟩ <;> omega
  refine ⟨r0, by omega, by omega, by omega, by omega, by omega, ?_⟩
  obtain ⟨m5, hm5⟩ : ∃ m5, m5 = gh_u m4 91 (320 * gm_o G r + k) 1 := ⟨_, rfl⟩
  rw [← hm5]
  have x5 : gx [91] m4 m5 := by
    rw [hm5]
    exact gx_one _ _ _ _
  have v5 : ∀ x, x ≠ 320 * gm_o G r + k → m5 91 x = m3 91 x := fun x xn => by
    rw [hm5, gh_u_i xn, hx4 91 (by decide)]
  have v5s : m5 91 (320 * gm_o G r + k) = 1 := by
    rw [hm5, gh_u_s]
  clear hm5
  have mr5 : ∀ a, gy_mr m5 a = gy_mr m4 a := fun a => gy_mr_cg (by rw [x5 89 (by decide)]) (fun d _ _ => by rw [x5 90 (by decide)])
  have mr4 : ∀ a, 0 ≤ a → a < m3 63 42 → gy_mr m4 a = gy_mr m3 a := fun a a0 a1 => gy_mr_cg (e89 a a1) (fun d d0 d1 => e90 _ (by have := (each a a0 a1).1; omega))
  refine ⟨gx_t hx3 (gx_t (gx_sub hx4 (by decide)) (gx_sub x5 (by decide))), fun y yn => by rw [x5 63 (by decide), o4 y yn]; exact o3 y yn, fun x x0 x1 => by rw [x5 92 (by decide), hx4 92 (by decide)]; exact z3 x x0 x1, ?_⟩
  unfold gy_mi
  rw [x5 63 (by decide), x5 89 (by decide)]
  refine ⟨⟨by omega, by omega⟩, fun a a0 a1 => ?_, fun a b a0 a1 b0 b1 e => ?_, fun x x0 x1 => ?_, fun n a n0 n1 a0 a1 y => ?_, fun n L y => ?_⟩
  · rw [mr5]
    by_cases z : a < m3 63 42
    · rw [mr4 a a0 z, e89 a z]
      exact each a a0 z
    · have ek : a = k := by
        rcases kk with ⟨y1, y2⟩ | ⟨y1, y2, _⟩ <;> omega
      rw [ek, rk]
      exact ⟨szk, gy_sel_ok hG r0 c (by omega)⟩
  · rw [mr5, mr5] at e
    have one : ∀ a b, 0 ≤ a → a < m3 63 42 → ¬ b < m3 63 42 → b < m4 63 42 → gy_mr m4 a ≠ gy_mr m4 b := by
      intro a b a0 a1 b1 b2 e
      rcases kk with ⟨y1, y2⟩ | ⟨y1, y2, y3⟩
      · omega
      · have eb : b = k := by omega
        rw [eb, rk, mr4 a a0 a1] at e
        exact y3 a a0 a1 e
    by_cases za : a < m3 63 42
    · by_cases zb : b < m3 63 42
      · rw [mr4 a a0 za, mr4 b b0 zb] at e
        exact inj a b a0 za b0 zb e
      · exact absurd e (one a b a0 za zb b1)
    · by_cases zb : b < m3 63 42
      · exact absurd e.symm (one b a b0 zb za a1)
      · omega
  · by_cases z : x = 320 * gm_o G r + k
    · rw [z, v5s]
      exact Or.inr rfl
    · rw [v5 x z]
      exact b01 x x0 x1
  · by_cases z : 320 * n + a = 320 * gm_o G r + k
    · have e1 : a = k := by omega
      have e2 : n = gm_o G r := by omega
      rw [e1, e2, mr5, rk, stp]
      exact ⟨kq.1, Or.inr ⟨rfl, t2, t3, can, rfl⟩⟩
    · rw [v5 _ z] at y
      obtain ⟨y1, y2⟩ := snd n a n0 n1 a0 a1 y
      rw [mr5, mr4 a a0 y1, stp]
      exact ⟨by omega, Or.inl y2⟩
  · rw [stp] at y
    rcases y with y | y
    · obtain ⟨a, a0, a1, a2, a3⟩ := cmp n L y
      refine ⟨a, a0, by omega, by rw [mr5, mr4 a a0 a1]; exact a2, ?_⟩
      by_cases z : 320 * n + a = 320 * gm_o G r + k
      · rw [z, v5s]
        decide
      · rw [v5 _ z]
        exact a3
    · refine ⟨k, k0, kq.1, by rw [mr5, rk]; exact y.2.2.2.2.symm, ?_⟩
      rw [← y.1, v5s]
      decide
theorem gy_isUnit {m : gh_M} {a : Int} (h : 0 ≤ m 89 a) : p_Model_isUnit a m ↔ gy_un (gy_mr m a) := by
  unfold p_Model_isUnit gy_mr
  constructor
  · rintro ⟨y1, y2⟩
    rw [y1]
    refine ⟨m 90 (4 * a + ((0 : Nat) : Int)), rfl, ?_⟩
    have e : 4 * a + ((0 : Nat) : Int) = 4 * a := by omega
    rw [e]
    exact y2
  · rintro ⟨p, y1, y2⟩
    have ln := congrArg List.length y1
    rw [gy_pre_len] at ln
    have l1 : (m 89 a).toNat = 1 := ln
    rw [l1] at y1
    have y3 : [m 90 (4 * a + ((0 : Nat) : Int))] = [p] := y1
    injection y3 with y4 _
    have e : 4 * a + ((0 : Nat) : Int) = 4 * a := by omega
    rw [e] at y4
    exact ⟨by omega, by omega⟩
/-- of each name the rows that it has in the proper grammar, and no more than is said -/
def gy_mh (G : gm_G) (P : Int → List Int → Prop) (m : gh_M) : Prop := (0 ≤ m 63 42 ∧ m 63 42 ≤ 320) ∧ (∀ a, 0 ≤ a → a < m 63 42 → (0 ≤ m 89 a ∧ m 89 a ≤ 4) ∧ gy_ok G (gy_mr m a)) ∧ (∀ a b, 0 ≤ a → a < m 63 42 → 0 ≤ b → b < m 63 42 → gy_mr m a = gy_mr m b → a = b) ∧ (∀ x, 0 ≤ x → x < 2560 → m 92 x = 0 ∨ m 92 x = 1) ∧ (∀ n a, 0 ≤ n → n < 8 → 0 ≤ a → a < 320 → m 92 (320 * n + a) ≠ 0 → a < m 63 42 ∧ n < gm_N G ∧ P n (gy_mr m a)) ∧ ∀ n L, 0 ≤ n → n < gm_N G → P n L → ∃ a, 0 ≤ a ∧ a < m 63 42 ∧ gy_mr m a = L ∧ m 92 (320 * n + a) ≠ 0
theorem gy_tc_rng {N : Int} {P : Int → Int → Prop} {n i : Int} (h : gy_tc N P n i) : 0 ≤ n ∧ n < N ∧ 0 ≤ i := h (fun n i => 0 ≤ n ∧ n < N ∧ 0 ≤ i) (fun n i a b c _ => ⟨a, b, c⟩) (fun n j i a b c d e _ _ => ⟨a, b, e⟩)
theorem gy_tc_tr {N : Int} {P : Int → Int → Prop} {n j i : Int} (j1 : j < N) (h : gy_tc N P n j) (h2 : gy_tc N P j i) : gy_tc N P n i := fun Z z1 z2 => z2 n j i (gy_tc_rng h).1 (gy_tc_rng h).2.1 (gy_tc_rng h).2.2 j1 (gy_tc_rng h2).2.2 (h Z z1 z2) (h2 Z z1 z2)
theorem gy_goOver {G : gm_G} {E : Int} {U V : Int → Prop} {m : gh_M} {Q : Int → gh_M → Prop} (hG : gm_ok G) (hD : gm_D m G) (mi : gy_mi G (gy_lf G E U V) 320 m) (z92 : ∀ x, 0 ≤ x → x < 2560 → m 92 x = 0) (H : ∀ m2, gx [92, 93] m m2 → gy_mh G (gy_hs G E U V) m2 → Q 0 m2) : w_Model_goOver m Q := by
  have hN0 := hG.1
  have hN := hG.2.1
  obtain ⟨⟨q0, q1⟩, each, inj, b01, snd, cmp⟩ := mi
  obtain ⟨u, hu⟩ : ∃ u : Int → Int → Prop, u = fun a b => gy_lf G E U V a [-1 - b] := ⟨_, rfl⟩
  have uok : ∀ n i, u n i → 0 ≤ n ∧ n < gm_N G ∧ (0 ≤ i → i < gm_N G) := fun n i y => by
    rw [hu] at y
    obtain ⟨y1, _, y2⟩ := gy_lf_ok hG y
    have := y1 (-1 - i) List.mem_cons_self
    exact ⟨y2.1, y2.2, fun _ => by omega⟩
  have unit : ∀ m2 : gh_M, m2 89 = m 89 → m2 90 = m 90 → ∀ a, 0 ≤ a → a < m 63 42 → (p_Model_isUnit a m2 ↔ gy_un (gy_mr m a)) := fun m2 e1 e2 a a0 a1 => by
    have h := gy_isUnit (m := m) (each a a0 a1).1.1
    unfold p_Model_isUnit at h ⊢
    rw [e1, e2]
    exact h
  refine ⟨fun k m1 => 0 ≤ k ∧ k ≤ 64 ∧ gx [93] m m1 ∧ ∀ x, 0 ≤ x → x < k → m1 93 x = if x / 8 = x % 8 then 1 else 0, fun k _ => (100 - k).toNat, ⟨Int.le_refl _, by decide, gx_rf, fun x a b => by omega⟩, ?_⟩
  rintro k m1 ⟨k0, k1, hx, hk⟩
  unfold f_Model_goOver_2
  refine ⟨fun c => ⟨k0, k0, k0, by omega, by omega, ⟨by omega, by omega, gx_u hx (by decide), fun x x0 x1 => ?_⟩, by (try dsimp only); omega⟩, fun c => ?_⟩
  · by_cases w : x = k
    · rw [w, gh_u_s]
    · rw [gh_u_i w]
      exact hk x x0 (by omega)
  -- the units
  refine ⟨fun k m2 => 0 ≤ k ∧ k ≤ 320 * gm_N G ∧ gx [93] m m2 ∧ ∀ n i, 0 ≤ n → n < 8 → 0 ≤ i → i < 8 → (m2 93 (8 * n + i) = 0 ∨ m2 93 (8 * n + i) = 1) ∧ (m2 93 (8 * n + i) ≠ 0 → n = i ∨ u n i) ∧ (n = i → m2 93 (8 * n + i) ≠ 0) ∧ (∀ a, 0 ≤ a → a < m 63 42 → 320 * n + a < k → gy_mr m a = [-1 - i] → m 91 (320 * n + a) ≠ 0 → m2 93 (8 * n + i) ≠ 0), fun k _ => (3000 - k).toNat, ⟨Int.le_refl _, by omega, hx, fun n i n0 n1 i0 i1 => ?_⟩, ?_⟩
  · rw [hk (8 * n + i) (by omega) (by omega)]
    refine ⟨gh_ib01, fun y => Or.inl ?_, fun y => ?_, fun a a0 a1 y => by omega⟩
    · by_cases w : (8 * n + i) / 8 = (8 * n + i) % 8
      · omega
      · rw [if_neg w] at y
        exact absurd rfl y
    · rw [if_pos (by omega)]
      decide
  clear hk c k0 k1 hx
  rintro k m2 ⟨k0, k1, hx2, h2⟩
  have D2 := gm_D_x hx2 (by decide) hD
  have e91 : m2 91 = m 91 := hx2 91 (by decide)
  have un2 := unit m2 (hx2 89 (by decide)) (hx2 90 (by decide))
  unfold f_Model_goOver_38
  rw [D2.1, e91]
  refine ⟨by omega, fun c => ⟨k0, ?_⟩, fun c => ?_⟩
  · intro v2 hv2
    rw [hv2]
    clear hv2 v2
    have ek : 320 * (k / 320) + k % 320 = k := by omega
    have lt : m 91 k ≠ 0 → k % 320 < m 63 42 ∧ gy_lf G E U V (k / 320) (gy_mr m (k % 320)) := fun y => snd (k / 320) (k % 320) (by omega) (by omega) (by omega) (by omega) (by rw [ek]; exact y)
    refine ⟨k0, by omega, fun m3 => gx [93] m m3 ∧ ∀ n i, 0 ≤ n → n < 8 → 0 ≤ i → i < 8 → (m3 93 (8 * n + i) = 0 ∨ m3 93 (8 * n + i) = 1) ∧ (m3 93 (8 * n + i) ≠ 0 → n = i ∨ u n i) ∧ (n = i → m3 93 (8 * n + i) ≠ 0) ∧ (∀ a, 0 ≤ a → a < m 63 42 → 320 * n + a < k + 1 → gy_mr m a = [-1 - i] → m 91 (320 * n + a) ≠ 0 → m3 93 (8 * n + i) ≠ 0), fun m3 y => ⟨by omega, ⟨by omega, by omega, y⟩, by (try dsimp only); omega⟩, fun y => ?_, fun t => ?_, fun t => ⟨hx2, fun n i n0 n1 i0 i1 => ?_⟩⟩
    · unfold k_Model_isUnit
      exact ⟨by omega, by omega, fun _ => ⟨by omega, by omega, by omega⟩⟩
    · obtain ⟨y1, y2⟩ := lt t.1
      obtain ⟨p, yp, p0⟩ := (un2 (k % 320) (by omega) y1).mp t.2
      have okp := (each (k % 320) (by omega) y1).2 p (by rw [yp]; exact List.mem_cons_self)
      have s1 : m 89 (k % 320) = 1 := by
        have := t.2.1
        rw [hx2 89 (by decide)] at this
        exact this
      have ep : m2 90 (4 * (k % 320)) = p := by
        have h := yp
        unfold gy_mr at h
        rw [s1] at h
        have h' : [m 90 (4 * (k % 320) + ((0 : Nat) : Int))] = [p] := h
        injection h' with h3 _
        have e : 4 * (k % 320) + ((0 : Nat) : Int) = 4 * (k % 320) := by omega
        rw [e] at h3
        rw [hx2 90 (by decide)]
        exact h3
      rw [ep]
      have e8 : 8 * (k / 320) - 1 - p = 8 * (k / 320) + (-1 - p) := by omega
      refine ⟨k0, by omega, by omega, by omega, by omega, by omega, by omega, by omega, by omega, gx_u hx2 (by decide), fun n i n0 n1 i0 i1 => ?_⟩
      rw [e8]
      obtain ⟨w1, w2, w3, w4⟩ := h2 n i n0 n1 i0 i1
      by_cases q : 8 * n + i = 8 * (k / 320) + (-1 - p)
      · rw [q, gh_u_s]
        refine ⟨Or.inr rfl, fun _ => Or.inr ?_, fun _ => by decide, fun _ _ _ _ _ _ => by decide⟩
        have e1 : n = k / 320 := by omega
        have e2 : -1 - i = p := by omega
        rw [hu, e1]
        show gy_lf G E U V (k / 320) [-1 - i]
        rw [e2, ← yp]
        exact y2
      · rw [gh_u_i q]
        refine ⟨w1, w2, w3, fun a a0 a1 ak ar al => ?_⟩
        by_cases z : 320 * n + a = k
        · have e1 : k / 320 = n := by omega
          have e2 : k % 320 = a := by omega
          rw [e2, ar] at yp
          injection yp with yp' _
          omega
        · exact w4 a a0 a1 (by omega) ar al
    · obtain ⟨w1, w2, w3, w4⟩ := h2 n i n0 n1 i0 i1
      refine ⟨w1, w2, w3, fun a a0 a1 ak ar al => ?_⟩
      by_cases z : 320 * n + a = k
      · have e2 : k % 320 = a := by omega
        refine absurd ⟨by rw [← z]; exact al, ?_⟩ t
        rw [e2]
        exact (un2 a a0 a1).mpr ⟨_, ar, by omega⟩
      · exact w4 a a0 a1 (by omega) ar al
  -- closed over the names
  have ek : k = 320 * gm_N G := by omega
  rw [ek] at h2
  have base : ∀ n i, 0 ≤ n → n < 8 → 0 ≤ i → i < 8 → u n i → m2 93 (8 * n + i) ≠ 0 := fun n i n0 n1 i0 i1 y => by
    have uo := uok n i y
    rw [hu] at y
    obtain ⟨a, a0, a1, a2, a3⟩ := cmp n _ y
    exact (h2 n i n0 n1 i0 i1).2.2.2 a a0 a1 (by omega) a2 a3
  refine ⟨fun b m3 => 0 ≤ b ∧ b ≤ gm_N G ∧ gx [93] m m3 ∧ (∀ n i, 0 ≤ n → n < 8 → 0 ≤ i → i < 8 → (m3 93 (8 * n + i) = 0 ∨ m3 93 (8 * n + i) = 1) ∧ (m3 93 (8 * n + i) ≠ 0 → n = i ∨ gy_tc (gm_N G) u n i) ∧ (n = i ∨ u n i → m3 93 (8 * n + i) ≠ 0)) ∧ gq_wt (m3 93) b, fun b _ => (30 - b).toNat, ⟨Int.le_refl _, by omega, hx2, fun n i n0 n1 i0 i1 => ⟨(h2 n i n0 n1 i0 i1).1, fun y => ((h2 n i n0 n1 i0 i1).2.1 y).imp id (fun z => fun Z z1 _ => z1 n i n0 (uok n i z).2.1 i0 z), fun y => y.elim (h2 n i n0 n1 i0 i1).2.2.1 (base n i n0 n1 i0 i1)⟩, fun n j i _ _ x y => by omega⟩, ?_⟩
  clear h2 base ek c k0 k1 hx2 D2 e91 un2
  rintro b m3 ⟨b0, b1, hx3, h3, ht3⟩
  have D3 := gm_D_x hx3 (by decide) hD
  unfold f_Model_goOver_106
  rw [D3.1]
  refine ⟨fun c3 => ?_, fun c3 => ?_⟩
  · refine ⟨fun k m4 => 0 ≤ k ∧ k ≤ 64 ∧ gx [93] m m4 ∧ gq_pass (m3 93) (m4 93) b k, fun k _ => (100 - k).toNat, ⟨by omega, by omega, hx3, gq_pass_0⟩, ?_⟩
    rintro k m4 ⟨k0, k1, hx4, hp4⟩
    unfold f_Model_goOver_116
    refine ⟨fun c4 => ⟨by omega, by omega, fun _ => ⟨by omega, by omega, by omega, by omega, by omega, fun _ => ⟨by omega, by omega, by omega, by omega, by omega⟩⟩, by omega, by omega, by omega, ⟨by omega, by omega, gx_u hx4 (List.mem_singleton.mpr rfl), ?_⟩, by (try dsimp only); omega⟩, fun c4 => ⟨by omega, ⟨by omega, by omega, hx4, fun n i n0 n1 i0 i1 => ?_, ?_⟩, by (try dsimp only); omega⟩⟩
    · rw [gm_u_rowa]
      exact gq_pass_s b0 (by omega) k0 c4 hp4
    · have e : k = 64 := by omega
      rw [e] at hp4
      obtain ⟨a1, a2⟩ := gq_pass_at hp4 n0 n1 i0 i1
      obtain ⟨c1, c2, c3'⟩ := h3 n i n0 n1 i0 i1
      refine ⟨a1, fun z => ?_, fun z => a2.mpr (Or.inl (c3' z))⟩
      rcases a2.mp z with z | ⟨z1, z2⟩
      · exact c2 z
      · have u1 := (h3 n b n0 n1 b0 (by omega)).2.1 z1
        have u2 := (h3 b i b0 (by omega) i0 i1).2.1 z2
        rcases u1 with u1 | u1
        · rw [u1]
          exact u2
        · rcases u2 with u2 | u2
          · rw [← u2]
            exact Or.inr u1
          · exact Or.inr (gy_tc_tr (by omega) u1 u2)
    · have e : k = 64 := by omega
      rw [e] at hp4
      exact gq_pass_t b0 (by omega) hp4 ht3
  -- the rows
  have eb : b = gm_N G := by omega
  rw [eb] at ht3
  obtain ⟨T, hT⟩ : ∃ T, T = m3 93 := ⟨_, rfl⟩
  have TT : ∀ n i, 0 ≤ n → n < 8 → 0 ≤ i → i < 8 → (T (8 * n + i) ≠ 0 ↔ n = i ∨ gy_tc (gm_N G) u n i) := fun n i n0 n1 i0 i1 => by
    rw [hT]
    refine ⟨(h3 n i n0 n1 i0 i1).2.1, fun y => ?_⟩
    rcases y with y | y
    · exact (h3 n i n0 n1 i0 i1).2.2 (Or.inl y)
    · exact y (fun n i => i < 8 → m3 93 (8 * n + i) ≠ 0) (fun n i n0 n1 i0 z i1 => (h3 n i n0 (by omega) i0 i1).2.2 (Or.inr z)) (fun n j i n0 n1 j0 j1 i0 z1 z2 i1 => ht3 n j i n0 (by omega) j0 j1 i0 i1 (z1 (by omega)) (z2 i1)) i1
  refine ⟨fun k m4 => 0 ≤ k ∧ k ≤ 64 ∧ gx [92] m3 m4 ∧ ∀ n a, 0 ≤ n → n < 8 → 0 ≤ a → a < 320 → (m4 92 (320 * n + a) = 0 ∨ m4 92 (320 * n + a) = 1) ∧ (m4 92 (320 * n + a) ≠ 0 ↔ a < m 63 42 ∧ ¬ gy_un (gy_mr m a) ∧ ∃ i, 0 ≤ i ∧ i < 8 ∧ 8 * n + i < k ∧ T (8 * n + i) ≠ 0 ∧ m 91 (320 * i + a) ≠ 0), fun k _ => (100 - k).toNat, ⟨Int.le_refl _, by decide, gx_rf, fun n a n0 n1 a0 a1 => ?_⟩, ?_⟩
  · rw [hx3 92 (by decide), z92 _ (by omega) (by omega)]
    exact ⟨Or.inl rfl, fun y => absurd rfl y, fun ⟨_, _, i, i0, i1, i2, _⟩ => by omega⟩
  rintro k m4 ⟨k0, k1, hx4, h4⟩
  unfold f_Model_goOver_190
  refine ⟨fun c => ?_, fun c => ?_⟩
  rotate_left
  · have ek : k = 64 := by omega
    rw [ek] at h4
    have hx : gx [92, 93] m m4 := gx_t (gx_sub hx3 (by decide)) (gx_sub hx4 (by decide))
    have mr : ∀ a, gy_mr m4 a = gy_mr m a := fun a => gy_mr_cg (by rw [hx 89 (by decide)]) (fun d _ _ => by rw [hx 90 (by decide)])
    refine H m4 hx ?_
    unfold gy_mh
    rw [hx 63 (by decide), hx 89 (by decide)]
    refine ⟨⟨q0, q1⟩, fun a a0 a1 => by rw [mr]; exact each a a0 a1, fun a b a0 a1 b0 b1 e => by rw [mr, mr] at e; exact inj a b a0 a1 b0 b1 e, fun x x0 x1 => ?_, fun n a n0 n1 a0 a1 y => ?_, fun n L n0 n1 y => ?_⟩
    · have := (h4 (x / 320) (x % 320) (by omega) (by omega) (by omega) (by omega)).1
      have e : 320 * (x / 320) + x % 320 = x := by omega
      rw [e] at this
      exact this
    · obtain ⟨y1, y2, i, i0, i1, _, y3, y4⟩ := (h4 n a n0 n1 a0 a1).2.mp y
      have lf := (snd i a i0 i1 a0 a1 y4).2
      have rg := (gy_lf_ok hG lf).2.2
      have t := (TT n i n0 n1 i0 i1).mp y3
      rw [mr]
      refine ⟨y1, ?_, y2, i, rg, by rw [hu] at t; exact t, lf⟩
      rcases t with t | t
      · omega
      · exact (gy_tc_rng t).2.1
    · obtain ⟨nu, i, rg, t, lf⟩ := y
      obtain ⟨a, a0, a1, a2, a3⟩ := cmp i L lf
      refine ⟨a, a0, a1, by rw [mr]; exact a2, (h4 n a n0 (by omega) a0 (by omega)).2.mpr ⟨a1, by rw [a2]; exact nu, i, rg.1, by omega, by omega, (TT n i n0 (by omega) rg.1 (by omega)).mpr (by rw [hu]; exact t), a3⟩⟩
  have hx4m : gx [92, 93] m m4 := gx_t (gx_sub hx3 (by decide)) (gx_sub hx4 (by decide))
  have en : 8 * (k / 8) + k % 8 = k := by omega
  refine ⟨fun a m5 => 0 ≤ a ∧ a ≤ 320 ∧ gx [92] m3 m5 ∧ ∀ n x, 0 ≤ n → n < 8 → 0 ≤ x → x < 320 → (m5 92 (320 * n + x) = 0 ∨ m5 92 (320 * n + x) = 1) ∧ (m5 92 (320 * n + x) ≠ 0 ↔ x < m 63 42 ∧ ¬ gy_un (gy_mr m x) ∧ ∃ i, 0 ≤ i ∧ i < 8 ∧ (8 * n + i < k ∨ (8 * n + i = k ∧ x < a)) ∧ T (8 * n + i) ≠ 0 ∧ m 91 (320 * i + x) ≠ 0), fun a _ => (400 - a).toNat, ⟨Int.le_refl _, by decide, hx4, fun n x n0 n1 x0 x1 => ⟨(h4 n x n0 n1 x0 x1).1, ?_⟩⟩, ?_⟩
  · rw [(h4 n x n0 n1 x0 x1).2]
    exact ⟨fun ⟨y1, y2, i, i0, i1, i2, i3⟩ => ⟨y1, y2, i, i0, i1, Or.inl i2, i3⟩, fun ⟨y1, y2, i, i0, i1, i2, i3⟩ => ⟨y1, y2, i, i0, i1, by omega, i3⟩⟩
  rintro a m5 ⟨a0, a1, hx5, h5⟩
  have hx5m : gx [92, 93] m m5 := gx_t (gx_sub hx3 (by decide)) (gx_sub hx5 (by decide))
  have e93 : m5 93 = T := by
    rw [hx5 93 (by decide), hT]
  have un5 := unit m5 (hx5m 89 (by decide)) (hx5m 90 (by decide))
  unfold f_Model_goOver_198
  rw [hx5m 63 (by decide), e93, hx5m 91 (by decide)]
  refine ⟨fun m6 => gx [92] m3 m6 ∧ ∀ n x, 0 ≤ n → n < 8 → 0 ≤ x → x < 320 → (m6 92 (320 * n + x) = 0 ∨ m6 92 (320 * n + x) = 1) ∧ (m6 92 (320 * n + x) ≠ 0 ↔ x < m 63 42 ∧ ¬ gy_un (gy_mr m x) ∧ ∃ i, 0 ≤ i ∧ i < 8 ∧ 8 * n + i < k + 1 ∧ T (8 * n + i) ≠ 0 ∧ m 91 (320 * i + x) ≠ 0), fun m6 y => ⟨by omega, ⟨by omega, by omega, y⟩, by (try dsimp only); omega⟩, fun _ => ⟨k0, by omega⟩, fun t => ⟨hx5, fun n x n0 n1 x0 x1 => ⟨(h5 n x n0 n1 x0 x1).1, ?_⟩⟩, fun t => ⟨k0, by omega, by omega, ?_⟩⟩
  · rw [(h5 n x n0 n1 x0 x1).2]
    refine ⟨fun ⟨y1, y2, i, i0, i1, i2, i3⟩ => ⟨y1, y2, i, i0, i1, by omega, i3⟩, fun ⟨y1, y2, i, i0, i1, i2, i3, i4⟩ => ⟨y1, y2, i, i0, i1, ?_, i3, i4⟩⟩
    rcases t with t | t
    · omega
    · by_cases q : 8 * n + i = k
      · rw [q] at i3
        exact absurd t i3
      · omega
  · have t1 : a < m 63 42 := Classical.byContradiction (fun y => t (Or.inl y))
    have t2 : T k ≠ 0 := fun y => t (Or.inr y)
    intro v3 hv3
    rw [hv3]
    clear hv3 v3
    refine ⟨by omega, by omega, fun _ => ⟨k0, by omega, by omega, by omega, by omega, fun _ => ?_⟩, by omega, by omega, by omega, ⟨by omega, by omega, gx_u hx5 (by decide), fun n x n0 n1 x0 x1 => ?_⟩, by (try dsimp only); omega⟩
    · unfold k_Model_isUnit
      exact ⟨by omega, by omega, fun _ => ⟨by omega, by omega, by omega⟩⟩
    · by_cases q : 320 * n + x = 320 * (k / 8) + a
      · have e1 : n = k / 8 := by omega
        have e2 : x = a := by omega
        rw [q, gh_u_s]
        refine ⟨gh_ib01, ?_⟩
        have old := (h5 (k / 8) a (by omega) (by omega) a0 (by omega)).2
        rw [e1, e2]
        have ui := un5 a a0 t1
        constructor
        · intro y
          by_cases z : ¬ m5 92 (320 * (k / 8) + a) = 0 ∨ ¬ m 91 (320 * (k % 8) + a) = 0 ∧ ¬ p_Model_isUnit a m5
          · rcases z with z | z
            · obtain ⟨y1, y2, i, i0, i1, i2, i3⟩ := old.mp z
              exact ⟨y1, y2, i, i0, i1, Or.inl (by omega), i3⟩
            · exact ⟨t1, fun w => z.2 (ui.mpr w), k % 8, by omega, by omega, Or.inr ⟨en, by omega⟩, by rw [en]; exact t2, z.1⟩
          · rw [if_neg z] at y
            exact absurd rfl y
        · rintro ⟨y1, y2, i, i0, i1, i2, i3, i4⟩
          have z : ¬ m5 92 (320 * (k / 8) + a) = 0 ∨ ¬ m 91 (320 * (k % 8) + a) = 0 ∧ ¬ p_Model_isUnit a m5 := by
            by_cases w : 8 * (k / 8) + i = k
            · have e3 : k % 8 = i := by omega
              rw [e3]
              exact Or.inr ⟨i4, fun w => y2 (ui.mp w)⟩
            · exact Or.inl (old.mpr ⟨y1, y2, i, i0, i1, by omega, i3, i4⟩)
          rw [if_pos z]
          decide
      · rw [gh_u_i q]
        refine ⟨(h5 n x n0 n1 x0 x1).1, ?_⟩
        rw [(h5 n x n0 n1 x0 x1).2]
        refine ⟨fun ⟨y1, y2, i, i0, i1, i2, i3⟩ => ⟨y1, y2, i, i0, i1, by omega, i3⟩, fun ⟨y1, y2, i, i0, i1, i2, i3⟩ => ⟨y1, y2, i, i0, i1, ?_, i3⟩⟩
        rcases i2 with i2 | i2
        · exact Or.inl i2
        · refine Or.inr ⟨i2.1, ?_⟩
          omega
