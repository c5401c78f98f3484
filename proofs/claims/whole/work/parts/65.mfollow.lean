/-! THE MODEL'S FOLLOW -/
def gm_sw (G : gm_G) (E : Int) (F : Int → Int) (U S c k : Int) (P : Int → Prop) (y : Int) : Prop := ∃ r d, 0 ≤ r ∧ r < gm_R G ∧ 0 ≤ d ∧ d < gm_s G r ∧ 4 * r + d < k ∧ gb U r ∧ gb S (gm_o G r) ∧ gm_n G r d ≠ -1 ∧ y = gm_n G r d ∧ ((gm_fr G E F r (d + 1) (gm_s G r) c ∧ ∀ x, ¬ P x) ∨ (gm_er G E r (d + 1) (-1) ∧ P (gm_o G r) ∧ ∀ x, P x → x = gm_o G r))
theorem gm_sw_wf {G : gm_G} (hG : gm_ok G) {E : Int} {F : Int → Int} {U S c k : Int} : gq_wf (gm_N G).toNat (gm_sw G E F U S c k) := by
  rintro P y ⟨r, d, r0, r1, d0, d1, k1, u, s, n, rfl, h⟩
  obtain ⟨g1, g2, g3, g4, g5⟩ := hG.2.2.2.2.1 r r0 r1
  have w := gm_n_rng hG r0 r1 d0 d1
  refine ⟨fun x hx => ?_, by omega, by omega⟩
  rcases h with ⟨_, h⟩ | ⟨_, _, h⟩
  · exact absurd hx (h x)
  · rw [h x hx]
    omega
theorem gm_sw_s {G : gm_G} (hG : gm_ok G) {E : Int} {F : Int → Int} {U S c k : Int} (k0 : 0 ≤ k) {P : Int → Prop} {y : Int} (h : gm_sw G E F U S c (k + 1) P y) : gm_sw G E F U S c k P y ∨ (k % 4 < gm_s G (k / 4) ∧ gb U (k / 4) ∧ gb S (gm_o G (k / 4)) ∧ gm_n G (k / 4) (k % 4) ≠ -1 ∧ y = gm_n G (k / 4) (k % 4) ∧ ((gm_fr G E F (k / 4) (k % 4 + 1) (gm_s G (k / 4)) c ∧ ∀ x, ¬ P x) ∨ (gm_er G E (k / 4) (k % 4 + 1) (-1) ∧ P (gm_o G (k / 4)) ∧ ∀ x, P x → x = gm_o G (k / 4)))) := by
  obtain ⟨r, d, r0, r1, d0, d1, k1, h⟩ := h
  obtain ⟨g1, g2, g3, g4, g5⟩ := hG.2.2.2.2.1 r r0 r1
  by_cases c : 4 * r + d < k
  · exact Or.inl ⟨r, d, r0, r1, d0, d1, c, h⟩
  · right
    have e1 : k / 4 = r := by omega
    have e2 : k % 4 = d := by omega
    rw [e1, e2]
    exact ⟨d1, h⟩
theorem gbs_26 : gbs 27 67108864 := ⟨by decide, by decide⟩
theorem gb_26 {c : Int} (c0 : 0 ≤ c) : gb 67108864 c ↔ c = 26 := by
  have e : (67108864 : Int) = gh_ishl_f 1 26 := by
    rw [gb_one (k := 26) (by decide) (by decide)]
    rfl
  rw [e]
  exact gb_ishl1 (by decide) (by decide) c0
theorem gm_mFollow {m : gh_M} {G : gm_G} {Q : Int → gh_M → Prop} (hG : gm_ok G) (hD : gm_D m G) {E U S : Int} {F W : Int → Int} (hE : ∀ n, 0 ≤ n → n < gm_N G → (m 82 n = 0 ↔ gb E n)) (hU : ∀ r, 0 ≤ r → r < gm_R G → (m 83 r ≠ 0 ↔ gb U r)) (hS : ∀ n, 0 ≤ n → n < gm_N G → (m 85 n ≠ 0 ↔ gb S n)) (hF : ∀ n, 0 ≤ n → n < gm_N G → m 86 n = F n) (f1 : ∀ n, 0 ≤ n → n < gm_N G → gbs 26 (F n)) (w1 : ∀ n, 0 ≤ n → n < gm_N G → gbs 27 (W n)) (w2 : ∀ c, 0 ≤ c → gm_wc G E F U S c (fun n => gb (W n) c)) (w3 : ∀ c, 0 ≤ c → ∀ Z, gm_wc G E F U S c Z → ∀ n, 0 ≤ n → n < gm_N G → gb (W n) c → Z n) (h : ∀ m1, gx [87] m m1 → (∀ n, 0 ≤ n → n < gm_N G → m1 87 n = W n) → Q 0 m1) : w_Model_findFollow m Q := by
  have hN0 := hG.1
  have hN := hG.2.1
  have hR0 := hG.2.2.1
  have hR := hG.2.2.2.1
  have ini : ∀ n : Int, (if n = 0 then (if m 85 0 = 0 then (0 : Int) else 67108864) else 0) = if n = 0 ∧ m 85 0 ≠ 0 then (67108864 : Int) else 0 := fun n => by
    by_cases e : n = 0
    · rw [if_pos e]
      by_cases e2 : m 85 0 = 0
      · rw [if_pos e2, if_neg (fun z => z.2 e2)]
      · rw [if_neg e2, if_pos ⟨e, e2⟩]
    · rw [if_neg e, if_neg (fun z => e z.1)]
  refine ⟨fun n m1 => 0 ≤ n ∧ n ≤ gm_N G ∧ gx [87] m m1 ∧ ∀ i, 0 ≤ i → i < n → m1 87 i = if i = 0 ∧ m 85 0 ≠ 0 then (67108864 : Int) else 0, fun n _ => (10 - n).toNat, ⟨Int.le_refl _, by omega, gx_rf, fun i a b => by omega⟩, ?_⟩
  rintro n m1 ⟨n0, n1, hx, hi⟩
  unfold f_Model_findFollow_2
  rw [(gm_D_x hx (by decide) hD).1, hx 85 (by decide), ini]
  refine ⟨fun c => ⟨by omega, by omega, by omega, ⟨by omega, by omega, gx_u hx (List.mem_singleton.mpr rfl), fun i i0 i1 => ?_⟩, by (try dsimp only); omega⟩, fun c => ?_⟩
  · by_cases e : i = n
    · rw [e, gh_u_s]
    · rw [gh_u_i e]
      exact hi i i0 (by omega)
  have s0 := hS 0 (Int.le_refl _) (by omega)
  have wf : ∀ c k, gq_wf (gm_N G).toNat (gm_sw G E F U S c k) := fun c k => gm_sw_wf hG
  have frF : ∀ (m3 : gh_M), m3 86 = m 86 → ∀ q a c, 0 ≤ q → q < gm_R G → 0 ≤ a → (gm_fr G E (m3 86) q a (gm_s G q) c ↔ gm_fr G E F q a (gm_s G q) c) := fun m3 e q a c q0 q1 a0 => by
    have each : ∀ d, a ≤ d → d < gm_s G q → gm_n G q d ≠ -1 → m3 86 (gm_n G q d) = F (gm_n G q d) := fun d d0 d1 d2 => by
      have w := gm_n_rng hG q0 q1 (d := d) (by omega) d1
      rw [e]
      exact hF _ (by omega) (by omega)
    constructor
    · rintro ⟨d, y1, y2, y3, y4⟩
      exact ⟨d, y1, y2, y3, y4.imp id (fun w => ⟨w.1, by rw [← each d y1 y2 w.1]; exact w.2⟩)⟩
    · rintro ⟨d, y1, y2, y3, y4⟩
      exact ⟨d, y1, y2, y3, y4.imp id (fun w => ⟨w.1, by rw [each d y1 y2 w.1]; exact w.2⟩)⟩
  refine ⟨fun v m2 => 0 ≤ v ∧ v ≤ gm_N G ∧ gx [87] m m2 ∧ (∀ n, 0 ≤ n → n < gm_N G → gbs 27 (m2 87 n)) ∧ ∀ c, 0 ≤ c → (∀ n : Int, 0 ≤ n → n < (gm_N G).toNat → gq_col (m2 87) c n ≠ 0 → gb (W n) c) ∧ (c = 26 → gb S 0 → gq_col (m2 87) c 0 ≠ 0) ∧ (gq_cl (gm_sw G E F U S c (4 * gm_R G)) (gq_col (m2 87) c) ∨ v ≤ gq_ct (gm_N G).toNat (gq_col (m2 87) c)), fun v _ => (30 - v).toNat, ⟨by omega, by omega, hx, fun i i0 i1 => ?_, fun c c0 => ⟨fun i i0 i1 z => ?_, fun z1 z2 => ?_, Or.inr (by omega)⟩⟩, ?_⟩
  · rw [hi i i0 (by omega)]
    split
    · exact gbs_26
    · exact gbs_0 _
  · have : gb (m1 87 i) c := gq_bit_ne.mp z
    rw [hi i i0 (by omega)] at this
    by_cases e : i = 0 ∧ m 85 0 ≠ 0
    · rw [if_pos e] at this
      rw [e.1]
      exact (w2 c c0).1 ((gb_26 c0).mp this) (s0.mp e.2)
    · rw [if_neg e] at this
      exact absurd this (gb_0 c)
  · refine gq_bit_ne.mpr ?_
    rw [hi 0 (by omega) (by omega), if_pos ⟨rfl, s0.mpr z2⟩]
    exact (gb_26 c0).mpr z1
  rintro v m2 ⟨v0, v1, hx2, hb2, hc2⟩
  unfold f_Model_findFollow_44
  have cm2 := gm_D_x hx2 (by decide) hD
  rw [cm2.1]
  refine ⟨fun c2 => ?_, fun c2 => ?_⟩
  · refine ⟨fun k m3 => 0 ≤ k ∧ k ≤ 4 * gm_R G ∧ gx [87] m m3 ∧ (∀ n, 0 ≤ n → n < gm_N G → gbs 27 (m3 87 n)) ∧ ∀ c, 0 ≤ c → gq_ps (gm_N G).toNat (gm_sw G E F U S c (4 * gm_R G)) (gm_sw G E F U S c k) (fun n => gb (W n) c) (gq_col (m2 87) c) (gq_col (m3 87) c), fun k _ => (100 - k).toNat, ⟨by omega, by omega, hx2, hb2, fun c c0 => gq_init (fun _ _ _ => gq_bit_01) (hc2 c c0).1 ?_⟩, ?_⟩
    · rintro P y ⟨q, d, q0, q1, q2, q3, q4, _⟩
      omega
    rintro k m3 ⟨k0, k1, hx3, hb3, ps⟩
    have cm3 := gm_D_x hx3 (by decide) hD
    have e82 : m3 82 = m 82 := hx3 82 (by decide)
    have e83 : m3 83 = m 83 := hx3 83 (by decide)
    have e85 : m3 85 = m 85 := hx3 85 (by decide)
    have e86 : m3 86 = m 86 := hx3 86 (by decide)
    unfold f_Model_findFollow_54
    rw [cm3.2.1]
    refine ⟨by omega, fun c3 => ⟨k0, ?_⟩, fun c3 => ⟨by omega, ⟨by omega, by omega, hx3, hb3, fun c c0 => ?_⟩, by (try dsimp only); omega⟩⟩
    · rintro _ rfl
      have r0 : 0 ≤ k / 4 := by omega
      have r1 : k / 4 < gm_R G := by omega
      obtain ⟨g1, g2, g3, g4, g5⟩ := hG.2.2.2.2.1 (k / 4) r0 r1
      obtain ⟨d1, d2, d3⟩ := cm3.2.2 (k / 4) r0 r1
      have kk : 4 * (k / 4) + k % 4 = k := by omega
      rw [d2, d1, e83, e85]
      have hr := hU _ r0 r1
      have hs := hS _ g1 g2
      refine ⟨k0, r0, by omega, fun m4 => gx [87] m m4 ∧ (∀ n, 0 ≤ n → n < gm_N G → gbs 27 (m4 87 n)) ∧ ∀ c, 0 ≤ c → gq_ps (gm_N G).toNat (gm_sw G E F U S c (4 * gm_R G)) (gm_sw G E F U S c (k + 1)) (fun n => gb (W n) c) (gq_col (m2 87) c) (gq_col (m4 87) c), ?_, fun _ => ⟨by omega, by omega, fun _ => ⟨by omega, by omega, fun _ => by omega⟩⟩, fun z => ⟨hx3, hb3, fun c c0 => gq_skip (wf _ _) (ps c c0) (fun P y q => (gm_sw_s hG k0 q).imp id (fun yy => ?_))⟩, fun z => ?_⟩
      · rintro m4 ⟨j1, j2, j3⟩
        exact ⟨by omega, ⟨by omega, by omega, j1, j2, j3⟩, by (try dsimp only); omega⟩
      · obtain ⟨y1, y2, y3, y4, _⟩ := yy
        have pe := d3 (k % 4) (by omega) y1
        rw [kk] at pe
        rw [pe] at z
        have w := gm_p_n hG r0 r1 (d := k % 4) (by omega) y1
        have a1 := hr.mpr y2
        have a2 := hs.mpr y3
        omega
      · have z1 : k % 4 < gm_s G (k / 4) := by omega
        have pe := d3 (k % 4) (by omega) z1
        rw [kk] at pe
        rw [pe] at z ⊢
        have z2 : gm_p G (k / 4) (k % 4) < 0 := by omega
        have z3 : gb U (k / 4) := hr.mp (by omega)
        have z4 : gb S (gm_o G (k / 4)) := hs.mp (by omega)
        have w := gm_p_n hG r0 r1 (d := k % 4) (by omega) z1
        have ne : -1 - gm_p G (k / 4) (k % 4) = gm_n G (k / 4) (k % 4) := by omega
        rw [ne]
        refine ⟨k0, by omega, ?_⟩
        refine gm_firstFrom (E := E) hG cm3 (by rw [e82]; exact hE) (fun n n0 n1 => by rw [e86, hF n n0 n1]; exact f1 n n0 n1) r0 r1 (by omega) (by omega) (fun Y hY hc => ?_)
        have hc2 : ∀ c, 0 ≤ c → (gb Y c ↔ gm_fr G E F (k / 4) (k % 4 + 1) (gm_s G (k / 4)) c) := fun c c0 => (hc c c0).trans (frF m3 e86 _ _ c r0 r1 (by omega))
        have hY27 : gbs 27 Y := gbs_le hY (by decide)
        have fin : ∀ V, gbs 27 V → (∀ c, 0 ≤ c → (gb V c ↔ gb Y c ∨ (gm_er G E (k / 4) (k % 4 + 1) (-1) ∧ gb (m3 87 (gm_o G (k / 4))) c))) → gx [87] m (gh_u m3 87 (gm_n G (k / 4) (k % 4)) (gh_ior_f (m3 87 (gm_n G (k / 4) (k % 4))) V)) ∧ (∀ n, 0 ≤ n → n < gm_N G → gbs 27 ((gh_u m3 87 (gm_n G (k / 4) (k % 4)) (gh_ior_f (m3 87 (gm_n G (k / 4) (k % 4))) V)) 87 n)) ∧ ∀ c, 0 ≤ c → gq_ps (gm_N G).toNat (gm_sw G E F U S c (4 * gm_R G)) (gm_sw G E F U S c (k + 1)) (fun n => gb (W n) c) (gq_col (m2 87) c) (gq_col ((gh_u m3 87 (gm_n G (k / 4) (k % 4)) (gh_ior_f (m3 87 (gm_n G (k / 4) (k % 4))) V)) 87) c) := by
          intro V v1 v2
          have b3 := hb3 (gm_n G (k / 4) (k % 4)) (by omega) (by omega)
          refine ⟨gx_u hx3 (List.mem_singleton.mpr rfl), fun n n0 n1 => ?_, fun c c0 => ?_⟩
          · rw [gm_u_rowa]
            unfold gm_upd
            split
            · exact gbs_or (by decide) b3 v1
            · exact hb3 n n0 n1
          · rw [gm_u_rowa, gq_col_upd]
            refine gq_setS (S := fun P => (gm_fr G E F (k / 4) (k % 4 + 1) (gm_s G (k / 4)) c ∧ ∀ x, ¬ P x) ∨ (gm_er G E (k / 4) (k % 4 + 1) (-1) ∧ P (gm_o G (k / 4)) ∧ ∀ x, P x → x = gm_o G (k / 4))) (wf _ _) (by omega) (by omega) (fun P s => ⟨k / 4, k % 4, r0, r1, by omega, z1, by omega, z3, z4, by omega, rfl, s⟩) (ps c c0) (fun P s hp => ?_) gq_bit_01 ?_ (fun P y s => ?_)
            · have cl := (w2 c c0).2 (k / 4) r0 r1 z3 z4 (k % 4) (by omega) z1 (by omega)
              rcases s with ⟨s, _⟩ | ⟨s1, s2, _⟩
              · exact cl.1 s
              · exact cl.2 s1 (hp _ s2)
            · rw [gq_bit_ne, gb_ior (by decide : (27 : Nat) ≤ 31) b3 v1, v2 c c0, hc2 c c0]
              refine or_congr gq_bit_ne.symm ?_
              constructor
              · rintro (s | ⟨s1, s2⟩)
                · exact ⟨fun _ => False, Or.inl ⟨s, fun _ => id⟩, fun x => False.elim⟩
                · exact ⟨fun x => x = gm_o G (k / 4), Or.inr ⟨s1, rfl, fun x => id⟩, fun x hx => by rw [hx]; exact gq_bit_ne.mpr s2⟩
              · rintro ⟨P, s, hp⟩
                rcases s with ⟨s, _⟩ | ⟨s1, s2, _⟩
                · exact Or.inl s
                · exact Or.inr ⟨s1, gq_bit_ne.mp (hp _ s2)⟩
            · exact (gm_sw_s hG k0 s).imp id (fun ⟨_, _, _, _, e, s⟩ => ⟨e, P, s, fun x => id⟩)
        obtain ⟨b1, b2, b3, b4, b5⟩ := gb_mask hY
        have bo := hb3 _ g1 g2
        refine ⟨fun er => ?_, fun er => ?_⟩
        · rw [b3, if_pos ((gb_test1 (gbs_le b2 (by decide)) (by decide) (by decide)).mpr b5)]
          refine ⟨by omega, by omega, by omega, by omega, by omega, fun _ => by omega, by omega, by omega, fin _ (gbs_or (by decide) hY27 bo) (fun c c0 => ?_)⟩
          rw [gb_ior (by decide : (27 : Nat) ≤ 31) hY27 bo]
          exact or_congr Iff.rfl ⟨fun y => ⟨er, y⟩, fun y => y.2⟩
        · rw [b1, if_neg (fun y => b4 ((gb_test1 (gbs_le hY (by decide)) (by decide) (by decide)).mp y))]
          refine ⟨by omega, by omega, by omega, by omega, by omega, fun _ => by omega, by omega, by omega, fin _ (gbs_or (by decide) hY27 (gbs_0 _)) (fun c c0 => ?_)⟩
          rw [gb_ior (by decide : (27 : Nat) ≤ 31) hY27 (gbs_0 _)]
          exact or_congr Iff.rfl ⟨fun y => absurd y (gb_0 c), fun y => absurd y.1 er⟩
    · have e : k = 4 * gm_R G := by omega
      subst e
      exact ⟨(ps c c0).2.2.1, fun e1 e2 => (ps c c0).2.1 0 (by omega) (by omega) ((hc2 c c0).2.1 e1 e2), gq_round (wf _ _) (ps c c0) (hc2 c c0).2.2⟩
  · refine h m2 hx2 (fun n n0 n1 => gb_ext (hb2 n n0 n1) (w1 n n0 n1) (fun c c0 _ => ⟨fun z => (hc2 c c0).1 n n0 (by omega) (gq_bit_ne.mpr z), fun z => ?_⟩))
    have cl := gq_full (wf _ _) (by omega) (hc2 c c0).2.2
    refine w3 c c0 (fun n => gb (m2 87 n) c) ⟨fun e1 e2 => gq_bit_ne.mp ((hc2 c c0).2.1 e1 e2), fun r r0 r1 u s d d0 d1 d2 => ⟨fun y => ?_, fun y1 y2 => ?_⟩⟩ n n0 n1 z
    · exact gq_bit_ne.mp (cl (fun _ => False) _ ⟨r, d, r0, r1, d0, d1, by have := (hG.2.2.2.2.1 r r0 r1).2.2.2.1; omega, u, s, d2, rfl, Or.inl ⟨y, fun _ => id⟩⟩ (fun x => False.elim))
    · exact gq_bit_ne.mp (cl (fun x => x = gm_o G r) _ ⟨r, d, r0, r1, d0, d1, by have := (hG.2.2.2.2.1 r r0 r1).2.2.2.1; omega, u, s, d2, rfl, Or.inr ⟨y1, rfl, fun x => id⟩⟩ (fun x hx => by rw [hx]; exact gq_bit_ne.mpr y2))
