/-- as gm_fr, of the names Z that may begin with the letter -/
def gm_fz (G : gm_G) (E : Int) (Z : Int → Prop) (r a b c : Int) : Prop := ∃ d, a ≤ d ∧ d < b ∧ (∀ e, a ≤ e → e < d → gm_n G r e ≠ -1 ∧ gb E (gm_n G r e)) ∧ ((gm_n G r d = -1 ∧ gb (gm_p G r d) c) ∨ (gm_n G r d ≠ -1 ∧ Z (gm_n G r d)))
theorem gm_fz_mono {G : gm_G} (hG : gm_ok G) {E : Int} {Z Y : Int → Prop} {r a b c : Int} (r0 : 0 ≤ r) (r1 : r < gm_R G) (a0 : 0 ≤ a) (b1 : b ≤ gm_s G r) (h : ∀ n, 0 ≤ n → n < gm_N G → Z n → Y n) (h2 : gm_fz G E Z r a b c) : gm_fz G E Y r a b c := by
  obtain ⟨d, d0, d1, d2, d3⟩ := h2
  have hn := gm_n_rng hG r0 r1 (d := d) (by omega) (by omega)
  refine ⟨d, d0, d1, d2, d3.imp id (fun y => ⟨y.1, h _ (by omega) (by omega) y.2⟩)⟩
/-- the names Z are closed for the letter c: the name of a rule of U that may begin with it is of Z -/
def gm_fc (G : gm_G) (E U c : Int) (Z : Int → Prop) : Prop := ∀ r, 0 ≤ r → r < gm_R G → gb U r → gm_fz G E Z r 0 (gm_s G r) c → Z (gm_o G r)
theorem gm_findFirst {m : gh_M} {G : gm_G} {Q : Int → gh_M → Prop} (hG : gm_ok G) (hC : gm_C m G) (hE : gbs 8 (m 20 1)) (hU : gbs 20 (m 20 5)) (h : ∀ m1, gx [22] m m1 → (∀ n, 0 ≤ n → n < gm_N G → gbs 26 (m1 22 n)) → (∀ c, 0 ≤ c → gm_fc G (m 20 1) (m 20 5) c (fun n => gb (m1 22 n) c)) → (∀ c, 0 ≤ c → ∀ Z, gm_fc G (m 20 1) (m 20 5) c Z → ∀ n, 0 ≤ n → n < gm_N G → gb (m1 22 n) c → Z n) → Q 0 m1) : w_Facts_findFirst m Q := by
  have hN0 := hG.1
  have hN := hG.2.1
  have hR0 := hG.2.2.1
  have hR := hG.2.2.2.1
  have z0 : ∀ n, 0 ≤ n → n < gm_N G → (gh_fil m 22 8 0) 22 n = 0 := fun n n0 n1 => by
    unfold gh_fil
    rw [if_pos ⟨rfl, n0, by omega⟩]
  refine ⟨fun v m1 => 0 ≤ v ∧ v ≤ gm_N G ∧ gx [22] m m1 ∧ (∀ n, 0 ≤ n → n < gm_N G → gbs 26 (m1 22 n)) ∧ (∀ c, 0 ≤ c → ∀ Z, gm_fc G (m 20 1) (m 20 5) c Z → ∀ n, 0 ≤ n → n < gm_N G → gb (m1 22 n) c → Z n) ∧ ∀ c, 0 ≤ c → gm_fc G (m 20 1) (m 20 5) c (fun n => gb (m1 22 n) c) ∨ v ≤ gct (fun n => (m1 22 n).toNat.testBit c.toNat) (gm_N G).toNat, fun v _ => (10 - v).toNat, ⟨Int.le_refl _, by omega, gx_fil gx_rf (List.mem_singleton.mpr rfl), fun n n0 n1 => by rw [z0 n n0 n1]; exact gbs_0 _, fun c c0 Z _ n n0 n1 y => by rw [z0 n n0 n1] at y; exact absurd y (gb_0 c), fun c c0 => Or.inr (by omega)⟩, ?_⟩
  rintro v m1 ⟨v0, v1, hx, hb, hs, hc⟩
  unfold f_Facts_findFirst_10
  have cm := gm_C_x hx (by decide) hC
  rw [cm.1]
  refine ⟨fun c => ?_, fun c => h m1 hx hb (fun l l0 => ?_) hs⟩
  · refine ⟨fun r m2 => 0 ≤ r ∧ r ≤ 20 ∧ gx [22] m m2 ∧ (∀ n, 0 ≤ n → n < gm_N G → gbs 26 (m2 22 n)) ∧ (∀ c, 0 ≤ c → ∀ Z, gm_fc G (m 20 1) (m 20 5) c Z → ∀ n, 0 ≤ n → n < gm_N G → gb (m2 22 n) c → Z n) ∧ (∀ n c, 0 ≤ n → n < gm_N G → 0 ≤ c → gb (m1 22 n) c → gb (m2 22 n) c) ∧ ∀ q c, 0 ≤ q → q < r → q < gm_R G → 0 ≤ c → gb (m 20 5) q → gm_fz G (m 20 1) (fun n => gb (m1 22 n) c) q 0 (gm_s G q) c → gb (m2 22 (gm_o G q)) c, fun r _ => (30 - r).toNat, ⟨Int.le_refl _, by omega, hx, hb, hs, fun _ _ _ _ _ z => z, fun q c a b => by omega⟩, ?_⟩
    rintro r m2 ⟨r0, r1, hx2, hb2, hs2, hm, hq⟩
    unfold f_Facts_findFirst_23
    have cm2 := gm_C_x hx2 (by decide) hC
    have e20 : m2 20 = m 20 := hx2 20 (by decide)
    rw [cm2.2.1]
    refine ⟨fun c2 => ?_, fun c2 => ?_⟩
    · obtain ⟨p1, p2, p3, p4, p5⟩ := hG.2.2.2.2.1 r r0 c2
      rw [(cm2.2.2 r r0 c2).1]
      unfold p_Facts_isUsefulRule
      rw [e20]
      have t := gb_test0 (i := r) (gbs_le hU (by decide : (20 : Nat) ≤ 31)) r0 (by omega)
      refine ⟨fun m3 => gx [22] m m3 ∧ (∀ n, 0 ≤ n → n < gm_N G → gbs 26 (m3 22 n)) ∧ (∀ c, 0 ≤ c → ∀ Z, gm_fc G (m 20 1) (m 20 5) c Z → ∀ n, 0 ≤ n → n < gm_N G → gb (m3 22 n) c → Z n) ∧ (∀ n c, 0 ≤ n → n < gm_N G → 0 ≤ c → gb (m2 22 n) c → gb (m3 22 n) c) ∧ ∀ c, 0 ≤ c → gb (m 20 5) r → gm_fz G (m 20 1) (fun n => gb (m2 22 n) c) r 0 (gm_s G r) c → gb (m3 22 (gm_o G r)) c, ?_, fun z => ?_, fun z => ?_⟩
      · rintro m3 ⟨a1, a2, a3, a4, a5⟩
        refine ⟨⟨by omega, by omega⟩, ⟨by omega, by omega, a1, a2, a3, fun n l n0 n1 l0 z => a4 n l n0 n1 l0 (hm n l n0 n1 l0 z), fun q l q0 q1 q2 l0 z1 z2 => ?_⟩, by show (30 - (r + 1)).toNat < (30 - r).toNat; omega⟩
        by_cases e : q = r
        · subst e
          exact a5 l l0 z1 (gm_fz_mono hG q0 q2 (Int.le_refl _) (Int.le_refl _) (fun n n0 n1 z => hm n l n0 n1 l0 z) z2)
        · have w := hG.2.2.2.2.1 q q0 q2
          exact a4 _ _ w.1 w.2.1 l0 (hq q l q0 (by omega) q2 l0 z1 z2)
      · have z1 : gb (m 20 5) r := Classical.byContradiction (fun w => z (t.mpr w))
        refine ⟨r0, by omega, p1, by omega, gm_firstOfRow hG cm2 (by rw [e20]; exact hE) hb2 r0 c2 (Int.le_refl _) (by decide) (fun X hX hl => ⟨p1, by omega, ?_⟩)⟩
        rw [e20] at hl
        have bo := hb2 _ p1 p2
        refine ⟨gx_u hx2 (List.mem_singleton.mpr rfl), ?_, ?_, ?_, ?_⟩
        · rw [gm_u_rowa]
          intro n n0 n1
          unfold gm_upd
          split
          · exact gbs_or (by decide) bo hX
          · exact hb2 n n0 n1
        · rw [gm_u_rowa]
          intro l l0 Z hZ n n0 n1 y
          unfold gm_upd at y
          split at y
          · next e =>
            subst e
            rcases (gb_ior (by decide) bo hX).mp y with y | y
            · exact hs2 l l0 Z hZ _ n0 n1 y
            · exact hZ r r0 c2 z1 (gm_fz_mono hG r0 c2 (Int.le_refl _) (Int.le_refl _) (fun n n0 n1 w => hs2 l l0 Z hZ n n0 n1 w) ((hl l l0).mp y))
          · exact hs2 l l0 Z hZ n n0 n1 y
        · rw [gm_u_rowa]
          intro n l n0 n1 l0 y
          unfold gm_upd
          split
          · next e =>
            subst e
            exact (gb_ior (by decide) bo hX).mpr (Or.inl y)
          · exact y
        · rw [gm_u_rowa]
          intro l l0 _ y
          unfold gm_upd
          rw [if_pos rfl]
          exact (gb_ior (by decide) bo hX).mpr (Or.inr ((hl l l0).mpr y))
      · exact ⟨hx2, hb2, hs2, fun _ _ _ _ _ y => y, fun l l0 y => absurd (t.mp (Classical.byContradiction z)) (fun w => w y)⟩
    · refine ⟨⟨by omega, by omega⟩, ⟨by omega, by omega, hx2, hb2, hs2, fun l l0 => ?_⟩, by show (10 - (v + 1)).toNat < (10 - v).toNat; omega⟩
      by_cases e : ∀ i, 0 ≤ i → i < gm_N G → gb (m2 22 i) l → gb (m1 22 i) l
      · refine Or.inl (fun q q0 q1 z1 z2 => hq q l q0 (by omega) q1 l0 z1 (gm_fz_mono hG q0 q1 (Int.le_refl _) (Int.le_refl _) e z2))
      · rcases hc l l0 with hc | hc
        · exact absurd (fun i i0 i1 z => hs2 l l0 _ hc i i0 i1 z) e
        · refine Or.inr ?_
          have ⟨i, hi⟩ : ∃ i, ¬ (0 ≤ i → i < gm_N G → gb (m2 22 i) l → gb (m1 22 i) l) := Classical.not_forall.mp e
          have i0 : 0 ≤ i := Classical.byContradiction (fun z => hi (fun a => absurd a z))
          have i1 : i < gm_N G := Classical.byContradiction (fun z => hi (fun _ a => absurd a z))
          have i2 : gb (m2 22 i) l := Classical.byContradiction (fun z => hi (fun _ _ a => absurd a z))
          have i3 : ¬ gb (m1 22 i) l := fun z => hi (fun _ _ _ => z)
          have := gct_lt (p := fun n => (m1 22 n).toNat.testBit l.toNat) (q := fun n => (m2 22 n).toNat.testBit l.toNat) (gm_N G).toNat (fun i a b z => hm i l a (by omega) l0 z) i i0 (by omega) i2 (Bool.eq_false_iff.mpr i3)
          omega
  · rcases hc l l0 with hc | hc
    · exact hc
    · intro q q0 q1 _ _
      have w := hG.2.2.2.2.1 q q0 q1
      have w2 := w.2.1
      exact gct_full (p := fun n => (m1 22 n).toNat.testBit l.toNat) (gm_N G).toNat (by omega) _ w.1 (by omega)

