/-! USEFUL RULES, AND THE NAMES THAT STEPS LEAD TO -/
theorem gm_findUsefulRules {m : gh_M} {G : gm_G} {Q : Int → gh_M → Prop} (hG : gm_ok G) (hC : gm_C m G) (hL : gm_Lr G (m 21)) (h : ∀ U, gbs 20 U → (∀ r, 0 ≤ r → (gb U r ↔ r < gm_R G ∧ gm_lr G (m 21) r 0 < 16777216)) → Q 0 (gh_u m 20 5 U)) : w_Facts_findUsefulRules m Q := by
  have hR0 := hG.2.2.1
  have hR := hG.2.2.2.1
  have e21 : ∀ U, (gh_u m 20 5 U) 21 = m 21 := fun U => by
    funext j
    exact gh_u_a (by decide)
  refine ⟨fun r m1 => 0 ≤ r ∧ r ≤ gm_R G ∧ ∃ U, m1 = gh_u m 20 5 U ∧ gbs 20 U ∧ ∀ q, 0 ≤ q → (gb U q ↔ q < r ∧ gm_lr G (m 21) q 0 < 16777216), fun r _ => (30 - r).toNat, ⟨Int.le_refl _, by omega, 0, rfl, gbs_0 _, fun q q0 => ⟨fun z => absurd z (gb_0 q), fun z => by omega⟩⟩, ?_⟩
  rintro r m1 ⟨r0, r1, U, rfl, hU, hq⟩
  unfold f_Facts_findUsefulRules_7
  have cm := gm_C_20 hC 5 U
  rw [cm.2.1]
  refine ⟨fun c => ?_, fun c => h U hU (fun q q0 => by rw [hq q q0]; constructor <;> (rintro ⟨z1, z2⟩; exact ⟨by omega, z2⟩))⟩
  refine gm_leastOfRow hG cm (by rw [e21]; exact hL) r0 c (Int.le_refl _) (by decide) ?_
  rw [e21]
  refine ⟨fun m2 => ∃ U, m2 = gh_u m 20 5 U ∧ gbs 20 U ∧ ∀ q, 0 ≤ q → (gb U q ↔ q < r + 1 ∧ gm_lr G (m 21) q 0 < 16777216), ?_, fun z => ?_, fun z => ?_⟩
  · rintro _ ⟨U2, rfl, u1, u2⟩
    exact ⟨⟨by omega, by omega⟩, ⟨by omega, by omega, U2, rfl, u1, u2⟩, by show (30 - (r + 1)).toNat < (30 - r).toNat; omega⟩
  · have b1 : gbs 20 (gh_ishl_f 1 r) := gbs_one r0 (by omega) (by decide)
    refine ⟨gh_ior_f U (gh_ishl_f 1 r), by rw [gh_u_s, gh_u_u], gbs_or (by decide) hU b1, fun q q0 => ?_⟩
    rw [gb_ior (by decide) hU b1, gb_ishl1 r0 (by omega) q0, hq q q0]
    constructor
    · rintro (y | rfl)
      · exact ⟨by omega, y.2⟩
      · exact ⟨by omega, z⟩
    · rintro ⟨y1, y2⟩
      by_cases e : q = r
      · exact Or.inr e
      · exact Or.inl ⟨by omega, y2⟩
  · refine ⟨U, rfl, hU, fun q q0 => ?_⟩
    rw [hq q q0]
    constructor
    · rintro ⟨y1, y2⟩
      exact ⟨by omega, y2⟩
    · rintro ⟨y1, y2⟩
      by_cases e : q = r
      · subst e
        exact absurd y2 z
      · exact ⟨by omega, y2⟩
theorem gm_namesIn {m : gh_M} {G : gm_G} {Q : Int → Prop} (hG : gm_ok G) (hC : gm_C m G) {r : Int} (r0 : 0 ≤ r) (r1 : r < gm_R G) (h : ∀ X, gbs (gm_N G).toNat X → (∀ i, 0 ≤ i → (gb X i ↔ ∃ d, 0 ≤ d ∧ d < gm_s G r ∧ gm_n G r d = i)) → Q X) : w_Facts_namesIn r m Q := by
  obtain ⟨p1, p2, p3, p4, p5⟩ := hG.2.2.2.2.1 r r0 r1
  have hR := hG.2.2.2.1
  have hN := hG.2.1
  have hN0 := hG.1
  have e2 := (hC.2.2 r r0 r1).2.1
  refine ⟨fun X d => 0 ≤ d ∧ d ≤ gm_s G r ∧ gbs (gm_N G).toNat X ∧ ∀ i, 0 ≤ i → (gb X i ↔ ∃ e, 0 ≤ e ∧ e < d ∧ gm_n G r e = i), fun _ d => (10 - d).toNat, ⟨Int.le_refl _, p3, gbs_0 _, fun i i0 => ⟨fun z => absurd z (gb_0 i), fun ⟨e, z1, z2, _⟩ => by omega⟩⟩, ?_⟩
  rintro X d ⟨d0, d1, hX, hi⟩
  unfold f_Facts_namesIn_4
  rw [e2]
  refine ⟨r0, by omega, fun c => ?_, fun c => h X hX (fun i i0 => ?_)⟩
  · obtain ⟨k1, x1⟩ := gm_nameAt hG hC r0 r1 (d := d) (by omega) c
    refine ⟨k1, ?_⟩
    rintro _ rfl
    rw [x1]
    rintro _ rfl
    have hn := gm_n_rng hG r0 r1 (d := d) (by omega) c
    have hb : gbs (gm_N G).toNat (if gm_n G r d = -1 then 0 else gh_ishl_f 1 (gm_n G r d)) ∧ ∀ i, 0 ≤ i → (gb (if gm_n G r d = -1 then 0 else gh_ishl_f 1 (gm_n G r d)) i ↔ gm_n G r d = i) := by
      rcases hn with e | ⟨e1, e2⟩
      · rw [if_pos e]
        exact ⟨gbs_0 _, fun i i0 => ⟨fun z => absurd z (gb_0 i), fun z => by omega⟩⟩
      · rw [if_neg (by omega)]
        exact ⟨gbs_one e1 (by omega) (by omega), fun i i0 => by rw [gb_ishl1 e1 (by omega) i0]; exact eq_comm⟩
    refine ⟨⟨by omega, by omega⟩, ⟨by omega, by omega, gbs_or (by omega) hX hb.1, fun i i0 => ?_⟩, by show (10 - (d + 1)).toNat < (10 - d).toNat; omega⟩
    rw [gb_ior (by omega) hX hb.1, hi i i0, hb.2 i i0]
    constructor
    · rintro (⟨e, z1, z2, z3⟩ | z)
      · exact ⟨e, z1, by omega, z3⟩
      · exact ⟨d, d0, by omega, z⟩
    · rintro ⟨e, z1, z2, z3⟩
      by_cases q : e = d
      · subst q
        exact Or.inr z3
      · exact Or.inl ⟨e, z1, by omega, z3⟩
  · have e : d = gm_s G r := by omega
    subst e
    exact hi i i0
/-- the names F are those that steps by rules B lead to: closed, and within every closed set -/
def gm_Scl (G : gm_G) (B F : Int) : Prop := gb F 0 ∧ ∀ r, 0 ≤ r → r < gm_R G → gb B r → gb F (gm_o G r) → ∀ d, 0 ≤ d → d < gm_s G r → gm_n G r d ≠ -1 → gb F (gm_n G r d)
def gm_Sso (G : gm_G) (B F : Int) : Prop := ∀ Z, gm_Scl G B Z → ∀ i, 0 ≤ i → gb F i → gb Z i
theorem gm_S_uniq {G : gm_G} {n : Nat} {B E F : Int} (hE : gbs n E) (hF : gbs n F) (e1 : gm_Scl G B E) (e2 : gm_Sso G B E) (f1 : gm_Scl G B F) (f2 : gm_Sso G B F) : E = F :=
  gb_ext hE hF (fun i a _ => ⟨e2 F f1 i a, f2 E e1 i a⟩)
theorem gm_spread {m : gh_M} {G : gm_G} {Q : Int → Prop} (hG : gm_ok G) (hC : gm_C m G) {B : Int} (hB : gbs 20 B) (h : ∀ F, gbs (gm_N G).toNat F → gm_Scl G B F → gm_Sso G B F → Q F) : w_Facts_spread B m Q := by
  have hN0 := hG.1
  have hN := hG.2.1
  have hR := hG.2.2.2.1
  have one : ∀ i, 0 ≤ i → (gb 1 i ↔ i = 0) := fun i i0 => by
    have := gb_ishl1 (k := 0) (i := i) (Int.le_refl _) (by decide) i0
    rwa [gb_one (Int.le_refl 0) (by decide)] at this
  have b1 : gbs (gm_N G).toNat 1 := by
    have := gbs_one (n := (gm_N G).toNat) (k := 0) (Int.le_refl _) (by omega) (by omega)
    rwa [gb_one (Int.le_refl 0) (by decide)] at this
  refine ⟨fun F v => 0 ≤ v ∧ v ≤ gm_N G ∧ gbs (gm_N G).toNat F ∧ gb F 0 ∧ gm_Sso G B F ∧ (gm_Scl G B F ∨ v ≤ gbc F (gm_N G).toNat), fun _ v => (10 - v).toNat, ⟨Int.le_refl _, by omega, b1, (one 0 (Int.le_refl _)).mpr rfl, fun Z hZ i i0 z => ?_, Or.inr (by omega)⟩, ?_⟩
  · rw [(one i i0).mp z]
    exact hZ.1
  rintro E v ⟨v0, v1, hE, hE0, hs, hc⟩
  unfold f_Facts_spread_4
  rw [hC.1]
  refine ⟨fun c => ?_, fun c => h E hE ?_ hs⟩
  · refine ⟨fun F r => 0 ≤ r ∧ r ≤ 20 ∧ gbs (gm_N G).toNat F ∧ gm_Sso G B F ∧ (∀ i, 0 ≤ i → gb E i → gb F i) ∧ ∀ q, 0 ≤ q → q < r → q < gm_R G → gb B q → gb E (gm_o G q) → ∀ d, 0 ≤ d → d < gm_s G q → gm_n G q d ≠ -1 → gb F (gm_n G q d), fun _ r => (30 - r).toNat, ⟨Int.le_refl _, by omega, hE, hs, fun i _ z => z, fun q a b => by omega⟩, ?_⟩
    rintro F r ⟨r0, r1, hF, hs2, hm, hq⟩
    unfold f_Facts_spread_18
    rw [hC.2.1]
    refine ⟨fun c2 => ?_, fun c2 => ?_⟩
    · obtain ⟨p1, p2, p3, p4, p5⟩ := hG.2.2.2.2.1 r r0 c2
      rw [(hC.2.2 r r0 c2).1]
      have t1 := gb_test0 (i := r) (gbs_le hB (by decide)) r0 (by omega)
      have t2 := gb_test0 (i := gm_o G r) (gbs_le hF (by omega)) p1 (by omega)
      refine ⟨fun F2 => gbs (gm_N G).toNat F2 ∧ gm_Sso G B F2 ∧ (∀ i, 0 ≤ i → gb F i → gb F2 i) ∧ (gb B r → gb F (gm_o G r) → ∀ d, 0 ≤ d → d < gm_s G r → gm_n G r d ≠ -1 → gb F2 (gm_n G r d)), ?_, fun _ => ⟨r0, by omega⟩, fun z => ?_, fun z => ?_⟩
      · rintro F2 ⟨a1, a2, a3, a4⟩
        refine ⟨⟨by omega, by omega⟩, ⟨by omega, by omega, a1, a2, fun i i0 z => a3 i i0 (hm i i0 z), fun q q0 q1 q2 z1 z2 d d0 d1 d2 => ?_⟩, by show (30 - (r + 1)).toNat < (30 - r).toNat; omega⟩
        by_cases e : q = r
        · subst e
          exact a4 z1 (hm _ p1 z2) d d0 d1 d2
        · have w := gm_n_rng hG q0 q2 d0 d1
          exact a3 _ (by omega) (hq q q0 (by omega) q2 z1 z2 d d0 d1 d2)
      · refine ⟨hF, hs2, fun i _ y => y, fun y1 y2 => ?_⟩
        rcases z with z | z
        · exact absurd y1 (t1.mp z)
        · exact absurd y2 (t2.mp z)
      · have y1 : gb B r := Classical.byContradiction (fun y => z (Or.inl (t1.mpr y)))
        have y2 : gb F (gm_o G r) := Classical.byContradiction (fun y => z (Or.inr (t2.mpr y)))
        refine gm_namesIn hG hC r0 c2 (fun X hX hi => ?_)
        rintro _ rfl
        refine ⟨gbs_or (by omega) hF hX, fun Z hZ i i0 y => ?_, fun i _ y => (gb_ior (by omega) hF hX).mpr (Or.inl y), fun _ _ d d0 d1 d2 => ?_⟩
        · rcases (gb_ior (by omega) hF hX).mp y with y | y
          · exact hs2 Z hZ i i0 y
          · obtain ⟨d, d0, d1, rfl⟩ := (hi i i0).mp y
            exact hZ.2 r r0 c2 y1 (hs2 Z hZ _ p1 y2) d d0 d1 (by omega)
        · have w := gm_n_rng hG r0 c2 d0 d1
          exact (gb_ior (by omega) hF hX).mpr (Or.inr ((hi _ (by omega)).mpr ⟨d, d0, d1, rfl⟩))
    · refine ⟨⟨by omega, by omega⟩, ⟨by omega, by omega, hF, hm 0 (Int.le_refl _) hE0, hs2, ?_⟩, by show (10 - (v + 1)).toNat < (10 - v).toNat; omega⟩
      by_cases e : ∀ i, 0 ≤ i → i < gm_N G → gb F i → gb E i
      · refine Or.inl ⟨hm 0 (Int.le_refl _) hE0, fun q q0 q1 z1 z2 => ?_⟩
        obtain ⟨y1, y2, _⟩ := hG.2.2.2.2.1 q q0 q1
        exact hq q q0 (by omega) q1 z1 (e _ y1 y2 z2)
      · rcases hc with hc | hc
        · exact absurd (fun i i0 _ z => hs2 E hc i i0 z) e
        · refine Or.inr ?_
          have ⟨i, hi⟩ : ∃ i, ¬ (0 ≤ i → i < gm_N G → gb F i → gb E i) := Classical.not_forall.mp e
          have i0 : 0 ≤ i := Classical.byContradiction (fun z => hi (fun a => absurd a z))
          have i1 : i < gm_N G := Classical.byContradiction (fun z => hi (fun _ a => absurd a z))
          have i2 : gb F i := Classical.byContradiction (fun z => hi (fun _ _ a => absurd a z))
          have i3 : ¬ gb E i := fun z => hi (fun _ _ _ => z)
          have := gbc_lt (x := E) (y := F) (gm_N G).toNat (fun i a _ => hm i a) i i0 (by omega) i2 i3
          omega
  · rcases hc with hc | hc
    · exact hc
    · refine ⟨hE0, fun q q0 q1 _ _ d d0 d1 d2 => ?_⟩
      have w := gm_n_rng hG q0 q1 d0 d1
      exact gbc_full (gm_N G).toNat (by omega) _ (by omega) (by omega)

