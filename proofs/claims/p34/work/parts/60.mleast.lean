/-- a part is a name or a set -/
theorem gm_p_n {G : gm_G} (hG : gm_ok G) {r d : Int} (r0 : 0 ≤ r) (r1 : r < gm_R G) (d0 : 0 ≤ d) (d1 : d < gm_s G r) : (gm_p G r d < 0 ∧ gm_n G r d = -1 - gm_p G r d ∧ 0 ≤ gm_n G r d ∧ gm_n G r d < gm_N G) ∨ (0 < gm_p G r d ∧ gm_p G r d < 67108864 ∧ gm_n G r d = -1) := by
  obtain ⟨g1, g2, g3, g4, g5, g6⟩ := hG
  obtain ⟨p1, p2, p3, p4, p5⟩ := g5 r r0 r1
  unfold gm_n
  rcases p5 d d0 d1 with ⟨a, b⟩ | ⟨a, b⟩
  · left
    rw [if_pos b]
    omega
  · right
    rw [if_neg (by omega)]
    exact ⟨a, b, rfl⟩
def gm_Kr (K : Int) (G : gm_G) (L : Int → Int) : Prop := ∀ i, 0 ≤ i → i < gm_N G → 0 ≤ L i ∧ L i ≤ K
theorem gm_lv_nn {G : gm_G} (hG : gm_ok G) {L : Int → Int} {K : Int} (hK : 1 ≤ K) (hL : gm_Kr K G L) {r d : Int} (r0 : 0 ≤ r) (r1 : r < gm_R G) (d0 : 0 ≤ d) (d1 : d < gm_s G r) : 0 ≤ gm_lv G L r d ∧ gm_lv G L r d ≤ K := by
  unfold gm_lv
  rcases gm_n_rng hG r0 r1 d0 d1 with e | ⟨e1, e2⟩
  · rw [if_pos e]
    omega
  · rw [if_neg (by omega)]
    exact hL _ e1 e2
theorem gm_ls_S {G : gm_G} {L : Int → Int} {r d : Int} (h : d < gm_s G r) : gm_ls G L r d (gm_s G r - d).toNat = gm_lv G L r d + gm_ls G L r (d + 1) (gm_s G r - (d + 1)).toNat := by
  have e : (gm_s G r - d).toNat = (gm_s G r - (d + 1)).toNat + 1 := by omega
  rw [e]
  rfl
theorem gm_ls_E {G : gm_G} {L : Int → Int} {r d : Int} (h : gm_s G r ≤ d) : gm_ls G L r d (gm_s G r - d).toNat = 0 := by
  have e : (gm_s G r - d).toNat = 0 := by omega
  rw [e]
  rfl
theorem gm_u_row2 {m : gh_M} {a i v : Int} {b : Int} (h : b ≠ a) : (gh_u m a i v) b = m b := by
  funext j
  exact gh_u_a h
