/-- c is a first letter of the row r from a on, of a part before b -/
def gm_fr (G : gm_G) (E : Int) (F : Int → Int) (r a b c : Int) : Prop := ∃ d, a ≤ d ∧ d < b ∧ (∀ e, a ≤ e → e < d → gm_n G r e ≠ -1 ∧ gb E (gm_n G r e)) ∧ ((gm_n G r d = -1 ∧ gb (gm_p G r d) c) ∨ (gm_n G r d ≠ -1 ∧ gb (F (gm_n G r d)) c))
theorem gm_fr_s {G : gm_G} {E : Int} {F : Int → Int} {r a d c : Int} (h0 : a ≤ d) (h : ∀ e, a ≤ e → e < d → gm_n G r e ≠ -1 ∧ gb E (gm_n G r e)) : gm_fr G E F r a (d + 1) c ↔ gm_fr G E F r a d c ∨ ((gm_n G r d = -1 ∧ gb (gm_p G r d) c) ∨ (gm_n G r d ≠ -1 ∧ gb (F (gm_n G r d)) c)) := by
  constructor
  · rintro ⟨e, a1, a2, a3, a4⟩
    by_cases q : e = d
    · subst q
      exact Or.inr a4
    · exact Or.inl ⟨e, a1, by omega, a3, a4⟩
  · rintro (⟨e, a1, a2, a3, a4⟩ | a4)
    · exact ⟨e, a1, by omega, a3, a4⟩
    · exact ⟨d, h0, by omega, h, a4⟩
theorem gm_fr_stop {G : gm_G} {E : Int} {F : Int → Int} {r a d b c : Int} (h0 : a ≤ d) (hb : d < b) (h : ¬ (gm_n G r d ≠ -1 ∧ gb E (gm_n G r d))) : gm_fr G E F r a b c ↔ gm_fr G E F r a (d + 1) c := by
  constructor
  · rintro ⟨e, a1, a2, a3, a4⟩
    exact ⟨e, a1, Classical.byContradiction (fun z => h (a3 d h0 (by omega))), a3, a4⟩
  · rintro ⟨e, a1, a2, a3, a4⟩
    exact ⟨e, a1, by omega, a3, a4⟩
theorem gm_firstOfRow {m : gh_M} {G : gm_G} {Q : Int → Prop} (hG : gm_ok G) (hC : gm_C m G) (hE : gbs 8 (m 20 1)) (hF : ∀ n, 0 ≤ n → n < gm_N G → gbs 26 (m 22 n)) {r a : Int} (r0 : 0 ≤ r) (r1 : r < gm_R G) (a0 : 0 ≤ a) (a1 : a ≤ 5) (h : ∀ X, gbs 26 X → (∀ c, 0 ≤ c → (gb X c ↔ gm_fr G (m 20 1) (m 22) r a (gm_s G r) c)) → Q X) : w_Facts_firstOfRow r a m Q := by
  obtain ⟨p1, p2, p3, p4, p5⟩ := hG.2.2.2.2.1 r r0 r1
  have hR := hG.2.2.2.1
  have hN := hG.2.1
  have e2 := (hC.2.2 r r0 r1).2.1
  refine ⟨fun X d => a ≤ d ∧ d ≤ 5 ∧ (d ≤ gm_s G r ∨ d = a) ∧ gbs 26 X ∧ (∀ e, a ≤ e → e < d → gm_n G r e ≠ -1 ∧ gb (m 20 1) (gm_n G r e)) ∧ ∀ c, 0 ≤ c → (gb X c ↔ gm_fr G (m 20 1) (m 22) r a d c), fun _ d => (10 - d).toNat, ⟨Int.le_refl _, a1, Or.inr rfl, gbs_0 _, fun e x y => by omega, fun c _ => ⟨fun z => absurd z (gb_0 c), fun ⟨e, x, y, _⟩ => by omega⟩⟩, ?_⟩
  rintro X d ⟨d0, d1, ds, hX, he, hc⟩
  unfold f_Facts_firstOfRow_5
  rw [e2]
  refine ⟨r0, by omega, fun c => ?_, fun c => h X hX (fun l l0 => ?_)⟩
  · obtain ⟨k1, x1⟩ := gm_nameAt hG hC r0 r1 (d := d) (by omega) c
    obtain ⟨k2, x2⟩ := gm_partAt hG hC r0 r1 (d := d) (by omega) c
    refine ⟨k1, ?_⟩
    rintro _ rfl
    rw [x1, x2]
    have hn := gm_n_rng hG r0 r1 (d := d) (by omega) c
    have hp := p5 d (by omega) c
    have hs : gbs 26 (if gm_n G r d = -1 then gm_p G r d else m 22 (gm_n G r d)) ∧ ∀ l, (gb (if gm_n G r d = -1 then gm_p G r d else m 22 (gm_n G r d)) l ↔ ((gm_n G r d = -1 ∧ gb (gm_p G r d) l) ∨ (gm_n G r d ≠ -1 ∧ gb (m 22 (gm_n G r d)) l))) := by
      rcases hn with e | ⟨e1, e2⟩
      · rw [if_pos e]
        refine ⟨?_, fun l => ⟨fun z => Or.inl ⟨e, z⟩, fun z => z.elim (fun y => y.2) (fun y => absurd e y.1)⟩⟩
        have hq : 0 < gm_p G r d ∧ gm_p G r d < 2 ^ 26 := by
          unfold gm_n at e
          split at e <;> omega
        exact ⟨by omega, hq.2⟩
      · rw [if_neg (by omega)]
        exact ⟨hF _ e1 e2, fun l => ⟨fun z => Or.inr ⟨by omega, z⟩, fun z => z.elim (fun y => by omega) (fun y => y.2)⟩⟩
    refine ⟨⟨fun _ => k2, fun z => ⟨by omega, by omega⟩⟩, ?_⟩
    rintro _ rfl
    have hY := gbs_or (by decide : (26 : Nat) ≤ 31) hX hs.1
    have hY2 : ∀ l, 0 ≤ l → (gb (gh_ior_f X (if gm_n G r d = -1 then gm_p G r d else m 22 (gm_n G r d))) l ↔ gm_fr G (m 20 1) (m 22) r a (d + 1) l) := fun l l0 => by
      rw [gb_ior (by decide : (26 : Nat) ≤ 31) hX hs.1, gm_fr_s d0 he, hc l l0, hs.2 l]
    refine ⟨fun z => h _ hY (fun l l0 => ?_), fun z => ⟨fun y => h _ hY (fun l l0 => ?_), fun y => ?_⟩⟩
    · rw [hY2 l l0, gm_fr_stop d0 c (fun w => w.1 z)]
    · have t := gb_test0 (i := gm_n G r d) (gbs_le hE (by decide : (8 : Nat) ≤ 31)) (by omega) (by omega)
      rw [hY2 l l0, gm_fr_stop d0 c (fun w => (t.mp y) w.2)]
    · have t := gb_test0 (i := gm_n G r d) (gbs_le hE (by decide : (8 : Nat) ≤ 31)) (by omega) (by omega)
      refine ⟨⟨by omega, by omega⟩, ⟨by omega, by omega, Or.inl (by omega), hY, fun e e0 e1 => ?_, hY2⟩, by show (10 - (d + 1)).toNat < (10 - d).toNat; omega⟩
      by_cases q : e = d
      · subst q
        exact ⟨z, Classical.byContradiction (fun w => y (t.mpr w))⟩
      · exact he e e0 (by omega)
  · rw [hc l l0]
    rcases ds with ds | ds
    · have e : d = gm_s G r := by omega
      rw [e]
    · subst ds
      constructor
      · rintro ⟨e, x, y, _⟩
        omega
      · rintro ⟨e, x, y, _⟩
        omega

