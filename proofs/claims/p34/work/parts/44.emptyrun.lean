theorem gh_u_u (m : gh_M) (a i v w : Int) : gh_u (gh_u m a i v) a i w = gh_u m a i w := by
  funext b j
  unfold gh_u
  by_cases c : b = a ∧ j = i
  · rw [if_pos c, if_pos c]
  · rw [if_neg c, if_neg c, if_neg c]
theorem gx_one (m : gh_M) (a i v : Int) : gx [a] m (gh_u m a i v) := gx_u gx_rf (List.mem_singleton.mpr rfl)
theorem gm_C_20 {m : gh_M} {G : gm_G} (hC : gm_C m G) (i v : Int) : gm_C (gh_u m 20 i v) G := gm_C_x (gx_one m 20 i v) (by decide) hC
theorem gm_findEmpty {m : gh_M} {G : gm_G} {Q : Int → gh_M → Prop} (hG : gm_ok G) (hC : gm_C m G) (h : ∀ E, gbs (gm_N G).toNat E → gm_Ecl G E → gm_Eso G E → Q 0 (gh_u m 20 1 E)) : w_Facts_findEmpty m Q := by
  have hN0 := hG.1
  have hN := hG.2.1
  have hR := hG.2.2.2.1
  refine ⟨fun v m1 => 0 ≤ v ∧ v ≤ gm_N G ∧ ∃ E, m1 = gh_u m 20 1 E ∧ gbs (gm_N G).toNat E ∧ gm_Eso G E ∧ (gm_Ecl G E ∨ v ≤ gbc E (gm_N G).toNat), fun v _ => (10 - v).toNat, ⟨Int.le_refl _, by omega, 0, rfl, gbs_0 _, fun Z _ i _ z => absurd z (gb_0 i), Or.inr (by omega)⟩, ?_⟩
  rintro v m1 ⟨v0, v1, E, rfl, hE, hs, hc⟩
  unfold f_Facts_findEmpty_7
  have cE : ∀ F, (gh_u m 20 1 F) 13 1 = gm_N G ∧ (gh_u m 20 1 F) 13 2 = gm_R G := fun F => ⟨(gm_C_20 hC 1 F).1, (gm_C_20 hC 1 F).2.1⟩
  rw [(cE E).1]
  refine ⟨fun c => ?_, fun c => h E hE ?_ hs⟩
  · refine ⟨fun r m2 => 0 ≤ r ∧ r ≤ 20 ∧ ∃ F, m2 = gh_u m 20 1 F ∧ gbs (gm_N G).toNat F ∧ gm_Eso G F ∧ (∀ i, 0 ≤ i → gb E i → gb F i) ∧ ∀ q, 0 ≤ q → q < r → q < gm_R G → gm_er G E q 0 (-1) → gb F (gm_o G q), fun r _ => (30 - r).toNat, ⟨Int.le_refl _, by omega, E, rfl, hE, hs, fun i _ z => z, fun q a b => by omega⟩, ?_⟩
    rintro r m2 ⟨r0, r1, F, rfl, hF, hs2, hm, hq⟩
    unfold f_Facts_findEmpty_20
    rw [(cE F).2]
    have sF : (gh_u m 20 1 F) 20 1 = F := gh_u_s m 20 1 F
    refine ⟨fun c2 => ?_, fun c2 => ?_⟩
    · have hR1 := hG.2.2.2.2.1 r r0 c2
      have eo : (gh_u m 20 1 F) 16 r = gm_o G r := ((gm_C_20 hC 1 F).2.2 r r0 c2).1
      have J : ∀ F2, gbs (gm_N G).toNat F2 → gm_Eso G F2 → (∀ i, 0 ≤ i → gb F i → gb F2 i) → (gm_er G E r 0 (-1) → gb F2 (gm_o G r)) → gh_i (r + 1) ∧ (fun r m2 => 0 ≤ r ∧ r ≤ 20 ∧ ∃ F, m2 = gh_u m 20 1 F ∧ gbs (gm_N G).toNat F ∧ gm_Eso G F ∧ (∀ i, 0 ≤ i → gb E i → gb F i) ∧ ∀ q, 0 ≤ q → q < r → q < gm_R G → gm_er G E q 0 (-1) → gb F (gm_o G q)) (r + 1) (gh_u m 20 1 F2) ∧ (30 - (r + 1)).toNat < (30 - r).toNat := by
        intro F2 a1 a2 a3 a4
        refine ⟨⟨by omega, by omega⟩, ⟨by omega, by omega, F2, rfl, a1, a2, fun i i0 z => a3 i i0 (hm i i0 z), fun q q0 q1 q2 z => ?_⟩, by omega⟩
        by_cases e : q = r
        · subst e
          exact a4 z
        · exact a3 _ (hG.2.2.2.2.1 q q0 q2).1 (hq q q0 (by omega) q2 z)
      refine gm_isEmptyRow hG (gm_C_20 hC 1 F) (by rw [sF]; exact gbs_le hF (by omega)) r0 c2 (Int.le_refl _) (by decide) (fun z => ?_) (fun z => ?_)
      · rw [sF] at z
        obtain ⟨b1, b2, b3, b4⟩ := gm_E_add hG hF hs2 r0 c2 z
        refine ⟨fun mm => mm = gh_u m 20 1 (gh_ior_f F (gh_ishl_f 1 (gm_o G r))), ?_, fun z => absurd z (by decide), fun _ => ⟨r0, by omega, ?_⟩⟩
        · rintro _ rfl
          exact J _ b1 b2 b3 (fun _ => b4)
        · rw [sF, eo, gh_u_u]
      · rw [sF] at z
        refine ⟨fun mm => mm = gh_u m 20 1 F, ?_, fun _ => rfl, fun z => absurd rfl z⟩
        rintro _ rfl
        refine J F hF hs2 (fun i _ z => z) (fun z2 => absurd (gm_er_mono hG r0 c2 (Int.le_refl _) (fun i a _ => hm i a) z2) z)
    · refine ⟨⟨by omega, by omega⟩, ⟨by omega, by omega, F, rfl, hF, hs2, ?_⟩, by show (10 - (v + 1)).toNat < (10 - v).toNat; omega⟩
      by_cases e : ∀ i, 0 ≤ i → i < gm_N G → gb F i → gb E i
      · refine Or.inl (fun q q0 q1 z => hq q q0 (by omega) q1 (gm_er_mono hG q0 q1 (Int.le_refl _) e z))
      · rcases hc with hc | hc
        · refine Or.inl (fun q q0 q1 z => ?_)
          exact absurd (fun i i0 _ z => hs2 E hc i i0 z) e
        · refine Or.inr ?_
          have ⟨i, hi⟩ : ∃ i, ¬ (0 ≤ i → i < gm_N G → gb F i → gb E i) := Classical.not_forall.mp e
          have i0 : 0 ≤ i := Classical.byContradiction (fun z => hi (fun a => absurd a z))
          have i1 : i < gm_N G := Classical.byContradiction (fun z => hi (fun _ a => absurd a z))
          have i2 : gb F i := Classical.byContradiction (fun z => hi (fun _ _ a => absurd a z))
          have i3 : ¬ gb E i := fun z => hi (fun _ _ _ => z)
          have := gbc_lt (x := E) (y := F) (gm_N G).toNat (fun i a _ => hm i a) i i0 (by omega) i2 i3
          omega
  · rcases hc with hc | hc
    · exact hc
    · exact fun q q0 q1 _ => gbc_full (gm_N G).toNat (by omega) _ (hG.2.2.2.2.1 q q0 q1).1 (by have := (hG.2.2.2.2.1 q q0 q1).2.1; omega)

