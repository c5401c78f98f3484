/-- a part is a name or a set -/
theorem gm_p_n {G : gm_G} (hG : gm_ok G) {r d : Int} (r0 : 0 ≤ r) (r1 : r < gm_R G) (d0 : 0 ≤ d) (d1 : d < gm_s G r) : (gm_p G r d < 0 ∧ gm_n G r d = -1 - gm_p G r d ∧ 0 ≤ gm_n G r d ∧ gm_n G r d < gm_N G) ∨ (0 < gm_p G r d ∧ gm_p G r d < 67108864 ∧ gm_n G r d = -1) := by
  obtain ⟨g1, g2, g3, g4, g5, g6⟩ := hG
  obtain ⟨p1, p2, p3, p4, p5⟩ := g5 r r0 r1
  unfold gm_n
  rcases p5 d d0 d1 with ⟨a, b⟩ | ⟨a, b⟩
  · left
    rw [if_pos b]
    omega
  · right
    rw [if_neg (by omega)]
    exact ⟨a, b, rfl⟩
theorem gm_u_row2 {m : gh_M} {a i v : Int} {b : Int} (h : b ≠ a) : (gh_u m a i v) b = m b := by
  funext j
  exact gh_u_a h
