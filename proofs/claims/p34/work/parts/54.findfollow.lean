/-! FIND FOLLOW -/
theorem gb_1 {i : Int} (i0 : 0 ≤ i) : gb 1 i ↔ i = 0 := by
  have := gb_ishl1 (k := 0) (i := i) (Int.le_refl _) (by decide) i0
  rwa [gb_one (Int.le_refl 0) (by decide)] at this
theorem gb_bit0 {S : Int} (hS : gbs 8 S) : (gb S 0 → gh_iand_f S 1 = 1) ∧ (¬ gb S 0 → gh_iand_f S 1 = 0) := by
  have h1 := gbs_and (by decide : (8 : Nat) ≤ 31) hS (by decide : (0 : Int) ≤ 1)
  have h2 := fun i => gb_iand (i := i) (by decide : (8 : Nat) ≤ 31) hS (by decide : (0 : Int) ≤ 1)
  refine ⟨fun z => gb_ext h1 ⟨by decide, by decide⟩ (fun i i0 _ => ?_), fun z => gb_ext h1 (gbs_0 8) (fun i i0 _ => ?_)⟩
  · rw [h2 i, gb_1 i0]
    exact ⟨fun y => y.2, fun y => ⟨y ▸ z, y⟩⟩
  · rw [h2 i, gb_1 i0]
    exact ⟨fun y => absurd (y.2 ▸ y.1) z, fun y => absurd y (gb_0 i)⟩
theorem gb_end {S : Int} (hS : gbs 8 S) : gbs 27 (gh_ishl_f (gh_iand_f S 1) 26) ∧ ∀ c, 0 ≤ c → (gb (gh_ishl_f (gh_iand_f S 1) 26) c ↔ c = 26 ∧ gb S 0) := by
  by_cases z : gb S 0
  · rw [(gb_bit0 hS).1 z]
    exact ⟨gbs_one (by decide) (by decide) (by decide), fun c c0 => by rw [gb_ishl1 (by decide) (by decide) c0]; exact ⟨fun y => ⟨y, z⟩, fun y => y.1⟩⟩
  · rw [(gb_bit0 hS).2 z]
    have e : gh_ishl_f 0 26 = 0 := gb_shl (a := 0) (k := 26) (by decide) (by decide)
    rw [e]
    exact ⟨gbs_0 _, fun c _ => ⟨fun y => absurd y (gb_0 c), fun y => absurd y.2 z⟩⟩
/-- the names Z, that the letter c may follow, are closed -/
def gm_wc (G : gm_G) (E : Int) (F : Int → Int) (U S c : Int) (Z : Int → Prop) : Prop := (c = 26 → gb S 0 → Z 0) ∧ ∀ r, 0 ≤ r → r < gm_R G → gb U r → gb S (gm_o G r) → gm_wr G E F r c Z
theorem gm_findFollow {m : gh_M} {G : gm_G} {Q : Int → gh_M → Prop} (hG : gm_ok G) (hC : gm_C m G) (hE : gbs 8 (m 20 1)) (hU : gbs 20 (m 20 5)) (hS : gbs 8 (m 20 4)) (hF : ∀ n, 0 ≤ n → n < gm_N G → gbs 26 (m 22 n)) (h : ∀ m1, gx [23] m m1 → (∀ n, 0 ≤ n → n < gm_N G → gbs 27 (m1 23 n)) → (∀ c, 0 ≤ c → gm_wc G (m 20 1) (m 22) (m 20 5) (m 20 4) c (fun n => gb (m1 23 n) c)) → (∀ c, 0 ≤ c → ∀ Z, gm_wc G (m 20 1) (m 22) (m 20 5) (m 20 4) c Z → ∀ n, 0 ≤ n → n < gm_N G → gb (m1 23 n) c → Z n) → Q 0 m1) : w_Facts_findFollow m Q := by
  have hN0 := hG.1
  have hN := hG.2.1
  have hR0 := hG.2.2.1
  have hR := hG.2.2.2.1
  have g20 : (gh_fil m 23 8 0) 20 = m 20 := by
    funext j
    unfold gh_fil
    rw [if_neg (fun z => absurd z.1 (by decide))]
  have z0 : ∀ n, 0 ≤ n → n < gm_N G → (gh_u (gh_fil m 23 8 0) 23 0 (gh_ishl_f (gh_iand_f ((gh_fil m 23 8 0) 20 4) 1) 26)) 23 n = if n = 0 then gh_ishl_f (gh_iand_f (m 20 4) 1) 26 else 0 := fun n n0 n1 => by
    rw [gm_u_rowa, g20]
    unfold gm_upd
    by_cases e : n = 0
    · rw [if_pos e, if_pos e]
    · rw [if_neg e, if_neg e]
      unfold gh_fil
      rw [if_pos ⟨rfl, n0, by omega⟩]
  obtain ⟨q1, q2⟩ := gb_end hS
  refine ⟨fun v m1 => 0 ≤ v ∧ v ≤ gm_N G ∧ gx [23] m m1 ∧ (∀ n, 0 ≤ n → n < gm_N G → gbs 27 (m1 23 n)) ∧ (∀ c, 0 ≤ c → c = 26 → gb (m 20 4) 0 → gb (m1 23 0) c) ∧ (∀ c, 0 ≤ c → ∀ Z, gm_wc G (m 20 1) (m 22) (m 20 5) (m 20 4) c Z → ∀ n, 0 ≤ n → n < gm_N G → gb (m1 23 n) c → Z n) ∧ ∀ c, 0 ≤ c → gm_wc G (m 20 1) (m 22) (m 20 5) (m 20 4) c (fun n => gb (m1 23 n) c) ∨ v ≤ gct (fun n => (m1 23 n).toNat.testBit c.toNat) (gm_N G).toNat, fun v _ => (10 - v).toNat, ⟨Int.le_refl _, by omega, gx_u (gx_fil gx_rf (List.mem_singleton.mpr rfl)) (List.mem_singleton.mpr rfl), fun n n0 n1 => ?_, fun c c0 e1 e2 => ?_, fun c c0 Z hZ n n0 n1 y => ?_, fun c c0 => Or.inr (by omega)⟩, ?_⟩
  · rw [z0 n n0 n1]
    split
    · exact q1
    · exact gbs_0 _
  · rw [z0 0 (Int.le_refl _) (by omega), if_pos rfl]
    exact (q2 c c0).mpr ⟨e1, e2⟩
  · rw [z0 n n0 n1] at y
    split at y
    · next e =>
      subst e
      exact hZ.1 ((q2 c c0).mp y).1 ((q2 c c0).mp y).2
    · exact absurd y (gb_0 c)
  rintro v m1 ⟨v0, v1, hx, hb, ho, hs, hc⟩
  unfold f_Facts_findFollow_25
  have cm := gm_C_x hx (by decide) hC
  rw [cm.1]
  refine ⟨fun c => ?_, fun c => h m1 hx hb (fun l l0 => ?_) hs⟩
  · refine ⟨fun r m2 => 0 ≤ r ∧ r ≤ 20 ∧ gx [23] m m2 ∧ (∀ n, 0 ≤ n → n < gm_N G → gbs 27 (m2 23 n)) ∧ (∀ c, 0 ≤ c → ∀ Z, gm_wc G (m 20 1) (m 22) (m 20 5) (m 20 4) c Z → ∀ n, 0 ≤ n → n < gm_N G → gb (m2 23 n) c → Z n) ∧ (∀ n c, 0 ≤ n → n < gm_N G → gb (m1 23 n) c → gb (m2 23 n) c) ∧ ∀ q c, 0 ≤ q → q < r → q < gm_R G → 0 ≤ c → gb (m 20 5) q → gb (m 20 4) (gm_o G q) → ∀ d, 0 ≤ d → d < gm_s G q → gm_n G q d ≠ -1 → (gm_fr G (m 20 1) (m 22) q (d + 1) (gm_s G q) c → gb (m2 23 (gm_n G q d)) c) ∧ (gm_er G (m 20 1) q (d + 1) (-1) → gb (m1 23 (gm_o G q)) c → gb (m2 23 (gm_n G q d)) c), fun r _ => (30 - r).toNat, ⟨Int.le_refl _, by omega, hx, hb, hs, fun _ _ _ _ z => z, fun q c a b => by omega⟩, ?_⟩
    rintro r m2 ⟨r0, r1, hx2, hb2, hs2, hm, hq⟩
    unfold f_Facts_findFollow_38
    have cm2 := gm_C_x hx2 (by decide) hC
    have e20 : m2 20 = m 20 := hx2 20 (by decide)
    have e22 : m2 22 = m 22 := hx2 22 (by decide)
    rw [cm2.2.1]
    refine ⟨fun c2 => ?_, fun c2 => ?_⟩
    · obtain ⟨p1, p2, p3, p4, p5⟩ := hG.2.2.2.2.1 r r0 c2
      rw [(cm2.2.2 r r0 c2).1]
      unfold p_Facts_isUsefulRule
      rw [e20]
      have t := gb_test0 (i := r) (gbs_le hU (by decide : (20 : Nat) ≤ 31)) r0 (by omega)
      have t2 := gb_test0 (i := gm_o G r) (gbs_le hS (by decide : (8 : Nat) ≤ 31)) p1 (by omega)
      have J : ∀ m3, gx [23] m m3 → (∀ n, 0 ≤ n → n < gm_N G → gbs 27 (m3 23 n)) → (∀ c, 0 ≤ c → ∀ Z, gm_wc G (m 20 1) (m 22) (m 20 5) (m 20 4) c Z → ∀ n, 0 ≤ n → n < gm_N G → gb (m3 23 n) c → Z n) → (∀ n c, 0 ≤ n → n < gm_N G → gb (m2 23 n) c → gb (m3 23 n) c) → (∀ c, 0 ≤ c → gb (m 20 5) r → gb (m 20 4) (gm_o G r) → ∀ d, 0 ≤ d → d < gm_s G r → gm_n G r d ≠ -1 → (gm_fr G (m 20 1) (m 22) r (d + 1) (gm_s G r) c → gb (m3 23 (gm_n G r d)) c) ∧ (gm_er G (m 20 1) r (d + 1) (-1) → gb (m2 23 (gm_o G r)) c → gb (m3 23 (gm_n G r d)) c)) → (gx [23] m m3 ∧ (∀ n, 0 ≤ n → n < gm_N G → gbs 27 (m3 23 n)) ∧ (∀ c, 0 ≤ c → ∀ Z, gm_wc G (m 20 1) (m 22) (m 20 5) (m 20 4) c Z → ∀ n, 0 ≤ n → n < gm_N G → gb (m3 23 n) c → Z n) ∧ (∀ n c, 0 ≤ n → n < gm_N G → gb (m1 23 n) c → gb (m3 23 n) c) ∧ ∀ q c, 0 ≤ q → q < r + 1 → q < gm_R G → 0 ≤ c → gb (m 20 5) q → gb (m 20 4) (gm_o G q) → ∀ d, 0 ≤ d → d < gm_s G q → gm_n G q d ≠ -1 → (gm_fr G (m 20 1) (m 22) q (d + 1) (gm_s G q) c → gb (m3 23 (gm_n G q d)) c) ∧ (gm_er G (m 20 1) q (d + 1) (-1) → gb (m1 23 (gm_o G q)) c → gb (m3 23 (gm_n G q d)) c)) := by
        intro m3 a1 a2 a3 a4 a5
        refine ⟨a1, a2, a3, fun n l n0 n1 z => a4 n l n0 n1 (hm n l n0 n1 z), fun q l q0 q1 q2 l0 z1 z2 d d0 d1 d2 => ?_⟩
        by_cases e : q = r
        · subst e
          exact ⟨(a5 l l0 z1 z2 d d0 d1 d2).1, fun y1 y2 => (a5 l l0 z1 z2 d d0 d1 d2).2 y1 (hm _ l p1 p2 y2)⟩
        · have w := gm_n_rng hG q0 q2 d0 d1
          obtain ⟨w1, w2⟩ := hq q l q0 (by omega) q2 l0 z1 z2 d d0 d1 d2
          exact ⟨fun y => a4 _ l (by omega) (by omega) (w1 y), fun y1 y2 => a4 _ l (by omega) (by omega) (w2 y1 y2)⟩
      refine ⟨fun m3 => gx [23] m m3 ∧ (∀ n, 0 ≤ n → n < gm_N G → gbs 27 (m3 23 n)) ∧ (∀ c, 0 ≤ c → ∀ Z, gm_wc G (m 20 1) (m 22) (m 20 5) (m 20 4) c Z → ∀ n, 0 ≤ n → n < gm_N G → gb (m3 23 n) c → Z n) ∧ (∀ n c, 0 ≤ n → n < gm_N G → gb (m1 23 n) c → gb (m3 23 n) c) ∧ ∀ q c, 0 ≤ q → q < r + 1 → q < gm_R G → 0 ≤ c → gb (m 20 5) q → gb (m 20 4) (gm_o G q) → ∀ d, 0 ≤ d → d < gm_s G q → gm_n G q d ≠ -1 → (gm_fr G (m 20 1) (m 22) q (d + 1) (gm_s G q) c → gb (m3 23 (gm_n G q d)) c) ∧ (gm_er G (m 20 1) q (d + 1) (-1) → gb (m1 23 (gm_o G q)) c → gb (m3 23 (gm_n G q d)) c), ?_, fun _ => ⟨r0, by omega⟩, fun z => J m2 hx2 hb2 hs2 (fun _ _ _ _ y => y) (fun l l0 y1 y2 => ?_), fun z => ?_⟩
      · rintro m3 ⟨a1, a2, a3, a4, a5⟩
        exact ⟨⟨by omega, by omega⟩, ⟨by omega, by omega, a1, a2, a3, a4, a5⟩, by show (30 - (r + 1)).toNat < (30 - r).toNat; omega⟩
      · rcases z with z | z
        · exact absurd (fun w => t.mp w y1) z
        · exact absurd y2 (t2.mp z)
      · have y1 : gb (m 20 5) r := Classical.byContradiction (fun w => z (Or.inl (fun k => k (t.mpr w))))
        have y2 : gb (m 20 4) (gm_o G r) := Classical.byContradiction (fun w => z (Or.inr (t2.mpr w)))
        refine gm_followInRow hG cm2 (by rw [e20]; exact hE) (by rw [e22]; exact hF) hb2 r0 c2 (fun m3 a1 a2 a3 a4 a5 => ?_)
        rw [e20, e22] at a4 a5
        exact J m3 (gx_tr (T := [23]) hx2 a1) a2 (fun l l0 Z hZ n n0 n1 y => a4 l Z l0 (hZ.2 r r0 c2 y1 y2) (hs2 l l0 Z hZ) n n0 n1 y) a3 (fun l l0 _ _ d d0 d1 d2 => a5 d l l0 d0 d1 d2)
    · refine ⟨⟨by omega, by omega⟩, ⟨by omega, by omega, hx2, hb2, fun l l0 e1 e2 => hm 0 l (Int.le_refl _) (by omega) (ho l l0 e1 e2), hs2, fun l l0 => ?_⟩, by show (10 - (v + 1)).toNat < (10 - v).toNat; omega⟩
      by_cases e : ∀ i, 0 ≤ i → i < gm_N G → gb (m2 23 i) l → gb (m1 23 i) l
      · refine Or.inl ⟨fun e1 e2 => hm 0 l (Int.le_refl _) (by omega) (ho l l0 e1 e2), fun q q0 q1 z1 z2 d d0 d1 d2 => ?_⟩
        obtain ⟨w1, w2⟩ := hq q l q0 (by omega) q1 l0 z1 z2 d d0 d1 d2
        have w := hG.2.2.2.2.1 q q0 q1
        exact ⟨w1, fun y1 y2 => w2 y1 (e _ w.1 w.2.1 y2)⟩
      · rcases hc l l0 with hc | hc
        · exact absurd (fun i i0 i1 z => hs2 l l0 _ hc i i0 i1 z) e
        · refine Or.inr ?_
          have ⟨i, hi⟩ : ∃ i, ¬ (0 ≤ i → i < gm_N G → gb (m2 23 i) l → gb (m1 23 i) l) := Classical.not_forall.mp e
          have i0 : 0 ≤ i := Classical.byContradiction (fun z => hi (fun a => absurd a z))
          have i1 : i < gm_N G := Classical.byContradiction (fun z => hi (fun _ a => absurd a z))
          have i2 : gb (m2 23 i) l := Classical.byContradiction (fun z => hi (fun _ _ a => absurd a z))
          have i3 : ¬ gb (m1 23 i) l := fun z => hi (fun _ _ _ => z)
          have := gct_lt (p := fun n => (m1 23 n).toNat.testBit l.toNat) (q := fun n => (m2 23 n).toNat.testBit l.toNat) (gm_N G).toNat (fun i a b z => hm i l a (by omega) z) i i0 (by omega) i2 (Bool.eq_false_iff.mpr i3)
          omega
  · rcases hc l l0 with hc | hc
    · exact hc
    · have full : ∀ n, 0 ≤ n → n < gm_N G → gb (m1 23 n) l := fun n n0 n1 => gct_full (p := fun n => (m1 23 n).toNat.testBit l.toNat) (gm_N G).toNat (by omega) n n0 (by omega)
      refine ⟨fun _ _ => full 0 (Int.le_refl _) (by omega), fun q q0 q1 _ _ d d0 d1 d2 => ?_⟩
      have w := gm_n_rng hG q0 q1 d0 d1
      exact ⟨fun _ => full _ (by omega) (by omega), fun _ _ => full _ (by omega) (by omega)⟩

