/-! THE MODEL'S GRAMMAR, AND ITS LEAST NUMBERS -/
/-- the model's cells hold this grammar -/
def gm_D (m : gh_M) (G : gm_G) : Prop := m 63 26 = gm_N G ∧ m 63 27 = gm_R G ∧ ∀ r, 0 ≤ r → r < gm_R G → m 79 r = gm_o G r ∧ m 80 r = gm_s G r ∧ ∀ d, 0 ≤ d → d < gm_s G r → m 81 (4 * r + d) = gm_p G r d
theorem gm_D_x {S : List Int} {m m' : gh_M} {G : gm_G} (h : gx S m m') (hS : (63 : Int) ∉ S ∧ (79 : Int) ∉ S ∧ (80 : Int) ∉ S ∧ (81 : Int) ∉ S) (hD : gm_D m G) : gm_D m' G := by
  unfold gm_D at hD ⊢
  rw [h 63 hS.1, h 79 hS.2.1, h 80 hS.2.2.1, h 81 hS.2.2.2]
  exact hD
/-- a part is a name or a set -/
theorem gm_p_n {G : gm_G} (hG : gm_ok G) {r d : Int} (r0 : 0 ≤ r) (r1 : r < gm_R G) (d0 : 0 ≤ d) (d1 : d < gm_s G r) : (gm_p G r d < 0 ∧ gm_n G r d = -1 - gm_p G r d ∧ 0 ≤ gm_n G r d ∧ gm_n G r d < gm_N G) ∨ (0 < gm_p G r d ∧ gm_p G r d < 67108864 ∧ gm_n G r d = -1) := by
  obtain ⟨g1, g2, g3, g4, g5, g6⟩ := hG
  obtain ⟨p1, p2, p3, p4, p5⟩ := g5 r r0 r1
  unfold gm_n
  rcases p5 d d0 d1 with ⟨a, b⟩ | ⟨a, b⟩
  · left
    rw [if_pos b]
    omega
  · right
    rw [if_neg (by omega)]
    exact ⟨a, b, rfl⟩
def gm_lk (K : Int) (G : gm_G) (L : Int → Int) (r a : Int) : Int := min (gm_ls G L r a (gm_s G r - a).toNat) K
def gm_Kr (K : Int) (G : gm_G) (L : Int → Int) : Prop := ∀ i, 0 ≤ i → i < gm_N G → 0 ≤ L i ∧ L i ≤ K
def gm_Kcl (K : Int) (G : gm_G) (L : Int → Int) : Prop := ∀ r, 0 ≤ r → r < gm_R G → L (gm_o G r) ≤ gm_lk K G L r 0
def gm_Kso (K : Int) (G : gm_G) (L : Int → Int) : Prop := ∀ Z, gm_Kr K G Z → gm_Kcl K G Z → ∀ i, 0 ≤ i → i < gm_N G → Z i ≤ L i
theorem gm_lv_nn {G : gm_G} (hG : gm_ok G) {L : Int → Int} {K : Int} (hK : 1 ≤ K) (hL : gm_Kr K G L) {r d : Int} (r0 : 0 ≤ r) (r1 : r < gm_R G) (d0 : 0 ≤ d) (d1 : d < gm_s G r) : 0 ≤ gm_lv G L r d ∧ gm_lv G L r d ≤ K := by
  unfold gm_lv
  rcases gm_n_rng hG r0 r1 d0 d1 with e | ⟨e1, e2⟩
  · rw [if_pos e]
    omega
  · rw [if_neg (by omega)]
    exact hL _ e1 e2
theorem gm_ls_nn {G : gm_G} (hG : gm_ok G) {L : Int → Int} {K : Int} (hK : 1 ≤ K) (hL : gm_Kr K G L) {r : Int} (r0 : 0 ≤ r) (r1 : r < gm_R G) : ∀ (k : Nat) (d : Int), 0 ≤ d → d + k ≤ gm_s G r → 0 ≤ gm_ls G L r d k
  | 0, _, _, _ => Int.le_refl _
  | k + 1, d, d0, d1 => by
    have h1 := gm_ls_nn hG hK hL r0 r1 k (d + 1) (by omega) (by omega)
    have h2 := gm_lv_nn hG hK hL r0 r1 d0 (by omega)
    unfold gm_ls
    omega
theorem gm_ls_S {G : gm_G} {L : Int → Int} {r d : Int} (h : d < gm_s G r) : gm_ls G L r d (gm_s G r - d).toNat = gm_lv G L r d + gm_ls G L r (d + 1) (gm_s G r - (d + 1)).toNat := by
  have e : (gm_s G r - d).toNat = (gm_s G r - (d + 1)).toNat + 1 := by omega
  rw [e]
  rfl
theorem gm_ls_E {G : gm_G} {L : Int → Int} {r d : Int} (h : gm_s G r ≤ d) : gm_ls G L r d (gm_s G r - d).toNat = 0 := by
  have e : (gm_s G r - d).toNat = 0 := by omega
  rw [e]
  rfl
theorem gm_lk_nn {G : gm_G} (hG : gm_ok G) {L : Int → Int} {K : Int} (hK : 1 ≤ K) (hL : gm_Kr K G L) {r a : Int} (r0 : 0 ≤ r) (r1 : r < gm_R G) (a0 : 0 ≤ a) : 0 ≤ gm_lk K G L r a ∧ gm_lk K G L r a ≤ K := by
  unfold gm_lk
  by_cases c : a ≤ gm_s G r
  · have h1 := gm_ls_nn hG hK hL r0 r1 (gm_s G r - a).toNat a a0 (by omega)
    omega
  · rw [gm_ls_E (by omega)]
    omega
theorem gm_lk_mono {G : gm_G} (hG : gm_ok G) {L Z : Int → Int} {K r a : Int} (r0 : 0 ≤ r) (r1 : r < gm_R G) (a0 : 0 ≤ a) (h : ∀ i, 0 ≤ i → i < gm_N G → L i ≤ Z i) : gm_lk K G L r a ≤ gm_lk K G Z r a := by
  unfold gm_lk
  by_cases c : a ≤ gm_s G r
  · have h1 := gm_ls_mono hG r0 r1 h (gm_s G r - a).toNat a a0 (by omega)
    omega
  · rw [gm_ls_E (by omega), gm_ls_E (by omega)]
    exact Int.le_refl _
theorem gm_leastOf {m : gh_M} {G : gm_G} {Q : Int → Prop} (hG : gm_ok G) (hD : gm_D m G) (hL : gm_Kr 1000000000 G (m 82)) {r a : Int} (r0 : 0 ≤ r) (r1 : r < gm_R G) (a0 : 0 ≤ a) (a1 : a ≤ 5) (h : Q (gm_lk 1000000000 G (m 82) r a)) : w_Model_leastOf r a m Q := by
  obtain ⟨p1, p2, p3, p4, p5⟩ := hG.2.2.2.2.1 r r0 r1
  have hR := hG.2.2.2.1
  have hN := hG.2.1
  obtain ⟨d1, d2, d3⟩ := hD.2.2 r r0 r1
  refine ⟨fun v d => a ≤ d ∧ d ≤ 5 ∧ 0 ≤ v ∧ v ≤ 1000000000 ∧ min (v + gm_ls G (m 82) r d (gm_s G r - d).toNat) 1000000000 = gm_lk 1000000000 G (m 82) r a, fun _ d => (10 - d).toNat, ⟨Int.le_refl _, a1, Int.le_refl _, by omega, by rw [Int.zero_add]; rfl⟩, ?_⟩
  rintro v d ⟨d0, e1, v0, v1, hv⟩
  unfold f_Model_leastOf_5
  rw [d2]
  refine ⟨r0, by omega, fun c => ?_, fun c => ?_⟩
  · have hb := gm_lv_nn hG (by decide) hL r0 r1 (d := d) (by omega) c
    have hb2 := gm_ls_nn hG (by decide) hL r0 r1 (gm_s G r - (d + 1)).toNat (d + 1) (by omega) (by omega)
    rw [gm_ls_S c] at hv
    refine ⟨by omega, by omega, by omega, by omega, ?_⟩
    rintro _ rfl
    rw [d3 d (by omega) c]
    have hl : (if gm_p G r d ≤ 0 then m 82 (-1 - gm_p G r d) else 1) = gm_lv G (m 82) r d := by
      unfold gm_lv
      rcases gm_p_n hG r0 r1 (d := d) (by omega) c with ⟨q1, q2, q3, q4⟩ | ⟨q1, q2, q3⟩
      · rw [if_pos (by omega), if_neg (by omega), q2]
      · rw [if_neg (by omega), if_pos q3]
    have hp := gm_p_n hG r0 r1 (d := d) (by omega) c
    rw [hl]
    refine ⟨fun z => by omega, by omega, ?_⟩
    rintro _ rfl
    rintro _ rfl
    refine ⟨by omega, ⟨by omega, by omega, by split <;> omega, by split <;> omega, ?_⟩, by (try dsimp only); omega⟩
    rw [← hv]
    split <;> omega
  · rw [gm_ls_E (by omega)] at hv
    have : v = gm_lk 1000000000 G (m 82) r a := by omega
    rw [this]
    exact h
theorem gm_u_row2 {m : gh_M} {a i v : Int} {b : Int} (h : b ≠ a) : (gh_u m a i v) b = m b := by
  funext j
  exact gh_u_a h
theorem gm_mLeast {m : gh_M} {G : gm_G} {Q : Int → gh_M → Prop} (hG : gm_ok G) (hD : gm_D m G) (h : ∀ m1, gx [82] m m1 → gm_Kr 1000000000 G (m1 82) → gm_Kcl 1000000000 G (m1 82) → gm_Kso 1000000000 G (m1 82) → Q 0 m1) : w_Model_findLeast m Q := by
  have hN0 := hG.1
  have hN := hG.2.1
  have hR0 := hG.2.2.1
  have hR := hG.2.2.2.1
  refine ⟨fun n m1 => 0 ≤ n ∧ n ≤ gm_N G ∧ gx [82] m m1 ∧ ∀ i, 0 ≤ i → i < n → m1 82 i = 1000000000, fun n _ => (10 - n).toNat, ⟨Int.le_refl _, by omega, gx_rf, fun i a b => by omega⟩, ?_⟩
  rintro n m1 ⟨n0, n1, hx, hi⟩
  unfold f_Model_findLeast_2
  rw [(gm_D_x hx (by decide) hD).1]
  refine ⟨fun c => ⟨by omega, by omega, by omega, ⟨by omega, by omega, gx_u hx (List.mem_singleton.mpr rfl), fun i i0 i1 => ?_⟩, by (try dsimp only); omega⟩, fun c => ?_⟩
  · by_cases e : i = n
    · rw [e, gh_u_s]
    · rw [gh_u_i e]
      exact hi i i0 (by omega)
  have big : ∀ i, 0 ≤ i → i < gm_N G → m1 82 i = 1000000000 := fun i i0 i1 => hi i i0 (by omega)
  refine ⟨fun v m2 => 0 ≤ v ∧ v ≤ 1 ∧ gx [82] m m2 ∧ gm_Kr 1000000000 G (m2 82) ∧ gm_Kso 1000000000 G (m2 82) ∧ (v = 0 → gm_Kcl 1000000000 G (m2 82)), fun v m2 => 2 * gm_sum (m2 82) (gm_N G).toNat + v.toNat, ⟨by omega, by omega, hx, fun i i0 i1 => by rw [big i i0 i1]; omega, fun Z z1 _ i i0 i1 => by rw [big i i0 i1]; exact (z1 i i0 i1).2, fun z => by omega⟩, ?_⟩
  rintro v m2 ⟨v0, v1, hx2, hr, hs, hc⟩
  unfold f_Model_findLeast_27
  refine ⟨fun z => h m2 hx2 hr (hc z) hs, fun z => ?_⟩
  have hv : v = 1 := by omega
  subst hv
  refine ⟨fun w r m3 => 0 ≤ w ∧ w ≤ 1 ∧ 0 ≤ r ∧ r ≤ 20 ∧ gx [82] m m3 ∧ gm_Kr 1000000000 G (m3 82) ∧ gm_Kso 1000000000 G (m3 82) ∧ (w = 0 → m3 82 = m2 82 ∧ ∀ q, 0 ≤ q → q < r → q < gm_R G → m2 82 (gm_o G q) ≤ gm_lk 1000000000 G (m2 82) q 0) ∧ (w = 1 → gm_sum (m3 82) (gm_N G).toNat < gm_sum (m2 82) (gm_N G).toNat), fun _ r _ => (30 - r).toNat, ⟨by omega, by omega, by omega, by omega, hx2, hr, hs, fun _ => ⟨rfl, fun q a b => by omega⟩, fun z => by omega⟩, ?_⟩
  rintro w r m3 ⟨w0, w1, r0, r1, hx3, hr3, hs3, hw0, hw1⟩
  have cm := gm_D_x hx3 (by decide) hD
  unfold f_Model_findLeast_35
  rw [cm.2.1]
  refine ⟨fun c2 => ?_, fun c2 => ⟨⟨w0, w1, hx3, hr3, hs3, fun z => ?_⟩, ?_⟩⟩
  · obtain ⟨p1, p2, p3, p4, p5⟩ := hG.2.2.2.2.1 r r0 c2
    have lk := gm_lk_nn hG (by decide) hr3 r0 c2 (Int.le_refl 0)
    refine gm_leastOf hG cm hr3 r0 c2 (Int.le_refl _) (by decide) ?_
    rw [(cm.2.2 r r0 c2).1]
    refine ⟨r0, by omega, p1, by omega, fun w' m4 => 0 ≤ w' ∧ w' ≤ 1 ∧ gx [82] m m4 ∧ gm_Kr 1000000000 G (m4 82) ∧ gm_Kso 1000000000 G (m4 82) ∧ (w' = 0 → m4 82 = m2 82 ∧ ∀ q, 0 ≤ q → q < r + 1 → q < gm_R G → m2 82 (gm_o G q) ≤ gm_lk 1000000000 G (m2 82) q 0) ∧ (w' = 1 → gm_sum (m4 82) (gm_N G).toNat < gm_sum (m2 82) (gm_N G).toNat), ?_, fun z => ?_, fun z => ?_⟩
    · rintro w' m4 ⟨a1, a2, a3, a4, a5, a6, a7⟩
      exact ⟨by omega, ⟨a1, a2, by omega, by omega, a3, a4, a5, a6, a7⟩, by show (30 - (r + 1)).toNat < (30 - r).toNat; omega⟩
    · have le : ∀ i, gm_upd (m3 82) (gm_o G r) (gm_lk 1000000000 G (m3 82) r 0) i ≤ m3 82 i := fun i => by
        unfold gm_upd
        split
        · next e => rw [e]; omega
        · exact Int.le_refl _
      refine ⟨r0, by omega, p1, by omega, by omega, by omega, gx_u hx3 (List.mem_singleton.mpr rfl), ?_, ?_, fun y => by omega, fun _ => ?_⟩
      · rw [gm_u_rowa]
        intro i i0 i1
        have := hr3 i i0 i1
        unfold gm_upd
        split <;> omega
      · rw [gm_u_rowa]
        intro Z z1 z2 i i0 i1
        have q3 := hs3 Z z1 z2 i i0 i1
        unfold gm_upd
        split
        · next e =>
          subst e
          exact Int.le_trans (z2 r r0 c2) (gm_lk_mono hG r0 c2 (Int.le_refl 0) (hs3 Z z1 z2))
        · exact q3
      · rw [gm_u_rowa]
        have e : gm_upd (m3 82) (gm_o G r) (gm_lk 1000000000 G (m3 82) r 0) (gm_o G r) = gm_lk 1000000000 G (m3 82) r 0 := if_pos rfl
        have lt := gm_sum_lt (L := gm_upd (m3 82) (gm_o G r) (gm_lk 1000000000 G (m3 82) r 0)) (Z := m3 82) (gm_N G).toNat (fun i _ _ => le i) (gm_o G r) p1 (by omega) (by omega) (by omega)
        by_cases y : w = 0
        · rw [(hw0 y).1] at lt ⊢
          exact lt
        · have := hw1 (by omega)
          omega
    · refine ⟨w0, w1, hx3, hr3, hs3, fun y => ⟨(hw0 y).1, fun q q0 q1 q2 => ?_⟩, hw1⟩
      by_cases e : q = r
      · subst e
        rw [(hw0 y).1] at z
        omega
      · exact (hw0 y).2 q q0 (by omega) q2
  · have e := (hw0 z).1
    rw [e]
    exact fun q q0 q1 => (hw0 z).2 q q0 (by omega) q1
  · show 2 * gm_sum (m3 82) (gm_N G).toNat + w.toNat < 2 * gm_sum (m2 82) (gm_N G).toNat + (1 : Int).toNat
    by_cases y : w = 0
    · rw [(hw0 y).1, y]
      show 2 * gm_sum (m2 82) (gm_N G).toNat + 0 < 2 * gm_sum (m2 82) (gm_N G).toNat + 1
      omega
    · have := hw1 (by omega)
      omega
