/-! A TEXT THAT IS MADE IS OF THE GRAMMAR -/
/-- a row of parts makes the letters from p on to the end -/
def gj_der (G : gm_G) (z : Int) (t : Int → Int) : List Int → Int → Prop
  | [], p => p = z
  | x :: K, p => (x < 0 ∧ ∃ q, gt_M G z t (-1 - x) p q ∧ gj_der G z t K q) ∨ (0 < x ∧ p < z ∧ gb x (t p) ∧ gj_der G z t K (p + 1))
section G26
variable {G : gm_G} {z : Int} {t : Int → Int}
theorem gj_der_le (hG : gm_ok G) : ∀ (L : List Int) (p : Int), gj_der G z t L p → p ≤ z
  | [], p, h => by
    have : p = z := h
    omega
  | x :: K, p, h => by
    rcases h with ⟨_, q, m, _⟩ | ⟨_, h, _⟩
    · have := gt_M_rng hG m
      omega
    · omega
theorem gj_der_row (hG : gm_ok G) {r i : Int} {K : List Int} (r0 : 0 ≤ r) (r1 : r < gm_R G) : ∀ (c : Nat) (p : Int), (c : Int) ≤ gm_s G r → gt_row G z t (gt_M G z t) r (gm_s G r - c) i p → gj_der G z t (gz_pt G r c ++ K) p → ∃ q, gt_row G z t (gt_M G z t) r (gm_s G r) i q ∧ gj_der G z t K q
  | 0, p, _, h, hd => by
    have e : gm_s G r - ((0 : Nat) : Int) = gm_s G r := by omega
    rw [e] at h
    exact ⟨p, h, hd⟩
  | c + 1, p, hc, h, hd => by
    have e0 : gm_s G r - ((c + 1 : Nat) : Int) = gm_s G r - ((c : Int) + 1) := by omega
    have e1 : gm_s G r - (c : Int) = gm_s G r - ((c : Int) + 1) + 1 := by omega
    rw [e0] at h
    have hd : gj_der G z t (gm_p G r (gm_s G r - ((c : Int) + 1)) :: (gz_pt G r c ++ K)) p := hd
    have pn := gm_p_n hG r0 r1 (d := gm_s G r - ((c : Int) + 1)) (by omega) (by omega)
    rcases hd with ⟨x0, q, m, hd⟩ | ⟨x0, pz, hb, hd⟩
    · have pn := pn.resolve_right (fun y => by omega)
      refine gj_der_row hG r0 r1 c q (by omega) ?_ hd
      rw [e1]
      exact (gt_row_s (by omega)).mpr ⟨p, h, Or.inr ⟨by omega, by rw [pn.2.1]; exact m⟩⟩
    · have pn := pn.resolve_left (fun y => by omega)
      refine gj_der_row hG r0 r1 c (p + 1) (by omega) ?_ hd
      rw [e1]
      exact (gt_row_s (by omega)).mpr ⟨p, h, Or.inl ⟨pn.2.2, rfl, pz, hb⟩⟩
theorem gj_der_run (hG : gm_ok G) {U : Int → Prop} {seed : Int} : ∀ (u : Nat) (s tc : Int) (L : List Int), gz_run G U seed u s tc t L → gj_der G z t L tc → gt_M G z t 0 0 z
  | 0, s, tc, L, h, hd => by
    rw [h.2.2, h.2.1] at hd
    rcases hd with ⟨_, q, m, hd⟩ | ⟨x0, _⟩
    · have e : q = z := hd
      rw [e] at m
      exact m
    · exact absurd x0 (by decide)
  | u + 1, s, tc, L, ⟨s0, tc0, L0, h1, h2⟩, hd => by
    have tc0n := gz_run_tc u s0 tc0 t L0 h1
    refine gj_der_run hG u s0 tc0 L0 h1 ?_
    cases L0 with
    | nil => exact False.elim h2
    | cons x K =>
      rcases h2.2 with ⟨x0, e, r, ⟨r0, r1, ⟨_, ro⟩, _⟩, eL⟩ | ⟨x0, t8, e, ⟨l0, l1, hb, _⟩, eL⟩
      · rw [eL, e] at hd
        have so := (hG.2.2.2.2.1 r r0 r1).2.2.1
        have le := gj_der_le hG _ _ hd
        obtain ⟨q, row, hd2⟩ := gj_der_row hG (i := tc0) r0 r1 (gm_s G r).toNat tc0 (by omega) (by
          have e0 : gm_s G r - (((gm_s G r).toNat : Nat) : Int) = 0 := by omega
          rw [e0]
          exact gt_row_0.mpr rfl) hd
        refine Or.inl ⟨x0, q, ?_, hd2⟩
        rw [← ro]
        exact gt_M_cl r tc0 q r0 r1 tc0n le row
      · rw [eL, e] at hd
        have le := gj_der_le hG _ _ hd
        exact Or.inr ⟨x0, by omega, hb, hd⟩
end G26
theorem gj_made (G : gm_G) (hG : gm_ok G) {U : Int → Prop} {seed tc : Int} {tr : Int → Int} (h : gz_good G U seed tc tr) : gt_M G tc tr 0 0 tc := by
  obtain ⟨u, s, h1, _, _⟩ := h
  exact gj_der_run hG u s tc [] h1 rfl
