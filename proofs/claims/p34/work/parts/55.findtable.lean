/-- the letters by which the rule r is chosen -/
def gm_tb (G : gm_G) (E : Int) (F : Int → Int) (U S : Int) (W : Int → Int) (r c : Int) : Prop := gb U r ∧ gb S (gm_o G r) ∧ (gm_fr G E F r 0 (gm_s G r) c ∨ (gm_er G E r 0 (-1) ∧ gb (W (gm_o G r)) c))
theorem gm_findTable {m : gh_M} {G : gm_G} {Q : Int → gh_M → Prop} (hG : gm_ok G) (hC : gm_C m G) (hE : gbs 8 (m 20 1)) (hU : gbs 20 (m 20 5)) (hS : gbs 8 (m 20 4)) (hF : ∀ n, 0 ≤ n → n < gm_N G → gbs 26 (m 22 n)) (hW : ∀ n, 0 ≤ n → n < gm_N G → gbs 27 (m 23 n)) (h : ∀ m1, gx [25] m m1 → (∀ r, 0 ≤ r → r < gm_R G → gbs 27 (m1 25 r) ∧ ∀ c, 0 ≤ c → (gb (m1 25 r) c ↔ gm_tb G (m 20 1) (m 22) (m 20 5) (m 20 4) (m 23) r c)) → Q 0 m1) : w_Facts_findTable m Q := by
  have hN := hG.2.1
  have hR0 := hG.2.2.1
  have hR := hG.2.2.2.1
  refine ⟨fun r m1 => 0 ≤ r ∧ r ≤ gm_R G ∧ gx [25] m m1 ∧ ∀ q, 0 ≤ q → q < r → gbs 27 (m1 25 q) ∧ ∀ c, 0 ≤ c → (gb (m1 25 q) c ↔ gm_tb G (m 20 1) (m 22) (m 20 5) (m 20 4) (m 23) q c), fun r _ => (30 - r).toNat, ⟨Int.le_refl _, hR0, gx_rf, fun q a b => by omega⟩, ?_⟩
  rintro r m1 ⟨r0, r1, hx, hq⟩
  unfold f_Facts_findTable_2
  have cm := gm_C_x hx (by decide) hC
  rw [cm.2.1]
  refine ⟨fun c => ?_, fun c => h m1 hx (fun q q0 q1 => hq q q0 (by omega))⟩
  obtain ⟨p1, p2, p3, p4, p5⟩ := hG.2.2.2.2.1 r r0 c
  have hx2 := gx_u (i := r) (v := 0) hx (List.mem_singleton.mpr rfl)
  have cm2 := gm_C_x hx2 (by decide) hC
  have e20 := hx2 20 (by decide)
  have e22 := hx2 22 (by decide)
  have d20 := hx 20 (by decide)
  have d23 := hx 23 (by decide)
  rw [(cm.2.2 r r0 c).1]
  refine ⟨r0, by omega, ?_⟩
  rintro _ rfl
  unfold p_Facts_isUsefulRule
  rw [e20, d20, d23]
  have t := gb_test0 (i := r) (gbs_le hU (by decide : (20 : Nat) ≤ 31)) r0 (by omega)
  have t2 := gb_test0 (i := gm_o G r) (gbs_le hS (by decide : (8 : Nat) ≤ 31)) p1 (by omega)
  refine ⟨r0, by omega, fun m3 => ∃ X, m3 = gh_u m1 25 r X ∧ gbs 27 X ∧ ∀ c, 0 ≤ c → (gb X c ↔ gm_tb G (m 20 1) (m 22) (m 20 5) (m 20 4) (m 23) r c), ?_, fun z => ⟨0, rfl, gbs_0 _, fun l l0 => ⟨fun y => absurd y (gb_0 l), fun y => ?_⟩⟩, fun z => ?_⟩
  · rintro _ ⟨X, rfl, x1, x2⟩
    refine ⟨⟨by omega, by omega⟩, ⟨by omega, by omega, gx_u hx (List.mem_singleton.mpr rfl), fun q q0 q1 => ?_⟩, by show (30 - (r + 1)).toNat < (30 - r).toNat; omega⟩
    rw [gm_u_rowa]
    unfold gm_upd
    by_cases e : q = r
    · rw [if_pos e, e]
      exact ⟨x1, x2⟩
    · rw [if_neg e]
      exact hq q q0 (by omega)
  · rcases z with z | z
    · exact absurd (fun w => t.mp w y.1) z
    · exact absurd y.2.1 (t2.mp z)
  · have y1 : gb (m 20 5) r := Classical.byContradiction (fun w => z (Or.inl (fun k => k (t.mpr w))))
    have y2 : gb (m 20 4) (gm_o G r) := Classical.byContradiction (fun w => z (Or.inr (t2.mpr w)))
    refine gm_firstOfRow hG cm2 (by rw [e20]; exact hE) (by rw [e22]; exact hF) r0 c (Int.le_refl _) (by decide) (fun X hX hl => ?_)
    rw [e20, e22] at hl
    have hX2 : gbs 27 X := gbs_le hX (by decide)
    refine gm_isEmptyRow hG cm2 (by rw [e20]; exact hE) r0 c (Int.le_refl _) (by decide) (fun y => ?_) (fun y => ?_)
    · rw [e20] at y
      refine ⟨fun _ => ⟨p1, by omega⟩, r0, by omega, _, by rw [gh_u_u], ?_, fun l l0 => ?_⟩
      · rw [if_neg (by decide)]
        exact gbs_or (by decide) hX2 (hW _ p1 p2)
      · rw [if_neg (by decide), gb_ior (by decide : (27 : Nat) ≤ 31) hX2 (hW _ p1 p2), hl l l0]
        exact ⟨fun w => ⟨y1, y2, w.imp id (fun k => ⟨y, k⟩)⟩, fun w => w.2.2.imp id (fun k => k.2)⟩
    · rw [e20] at y
      refine ⟨fun w => absurd rfl w, r0, by omega, _, by rw [gh_u_u], ?_, fun l l0 => ?_⟩
      · rw [if_pos rfl]
        exact gbs_or (by decide) hX2 (gbs_0 _)
      · rw [if_pos rfl, gb_ior (by decide : (27 : Nat) ≤ 31) hX2 (gbs_0 _), hl l l0]
        exact ⟨fun w => ⟨y1, y2, w.elim Or.inl (fun k => absurd k (gb_0 l))⟩, fun w => w.2.2.elim Or.inl (fun k => absurd k.1 y)⟩

