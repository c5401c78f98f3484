/-! COLUMNS OF BITS AS TABLES; THE MODEL'S FIRST -/
theorem gq_setS {T : Nat} {Ra R R' : (Int → Prop) → Int → Prop} {X : Int → Prop} {A1 A : Int → Int} {S : (Int → Prop) → Prop} {y0 w : Int} (hf : gq_wf T Ra) (y1 : 0 ≤ y0) (y2 : y0 < T) (h0 : ∀ P, S P → Ra P y0) (h : gq_ps T Ra R X A1 A) (hX : ∀ P, S P → (∀ x, P x → X x) → X y0) (hw0 : w = 0 ∨ w = 1) (hw : w ≠ 0 ↔ (A y0 ≠ 0 ∨ ∃ P, S P ∧ ∀ x, P x → A x ≠ 0)) (hR : ∀ P y, R' P y → R P y ∨ (y = y0 ∧ ∃ P0, S P0 ∧ ∀ x, P0 x → P x)) : gq_ps T Ra R' X A1 (gm_upd A y0 w) := by
  obtain ⟨a1, a2, a3, a4, a5⟩ := h
  have up : ∀ n, A n ≠ 0 → gm_upd A y0 w n ≠ 0 := fun n z => by
    unfold gm_upd
    split
    · next e =>
      subst e
      exact hw.mpr (Or.inl z)
    · exact z
  refine ⟨fun n n0 n1 => ?_, fun n n0 n1 z => up n (a2 n n0 n1 z), fun n n0 n1 z => ?_, fun P y z q => ?_, fun z n n0 n1 q => ?_⟩
  · unfold gm_upd
    split
    · exact hw0
    · exact a1 n n0 n1
  · unfold gm_upd at z
    split at z
    · next e =>
      subst e
      rcases hw.mp z with q | ⟨P, p1, q⟩
      · exact a3 _ n0 n1 q
      · exact hX P p1 (fun x hx => a3 x ((hf P _ (h0 P p1)).1 x hx).1 ((hf P _ (h0 P p1)).1 x hx).2 (q x hx))
    · exact a3 n n0 n1 z
  · rcases hR P y z with q2 | ⟨rfl, P0, p1, q2⟩
    · exact up y (a4 P y q2 q)
    · have e : gm_upd A y w y = w := if_pos rfl
      rw [e]
      exact hw.mpr (Or.inr ⟨P0, p1, fun x hx => a2 x ((hf P0 _ (h0 P0 p1)).1 x hx).1 ((hf P0 _ (h0 P0 p1)).1 x hx).2 (q x (q2 x hx))⟩)
  · unfold gm_upd at q
    split at q
    · next e =>
      subst e
      rcases hw.mp q with q | ⟨P, p1, q⟩
      · exact a5 z _ n0 n1 q
      · exact z P _ (h0 P p1) (fun x hx => a5 z x ((hf P _ (h0 P p1)).1 x hx).1 ((hf P _ (h0 P p1)).1 x hx).2 (q x hx))
    · exact a5 z n n0 n1 q
def gq_col (f : Int → Int) (c : Int) : Int → Int := fun n => gq_bit (f n) c
theorem gq_col_upd {f : Int → Int} {y v c : Int} : gq_col (gm_upd f y v) c = gm_upd (gq_col f c) y (gq_bit v c) := by
  funext n
  unfold gq_col gm_upd
  split <;> rfl
theorem gb_p26 {c : Int} (c0 : 0 ≤ c) : gb 67108863 c ↔ c < 26 := by
  unfold gb
  have e : (67108863 : Int).toNat = 2 ^ 26 - 1 := rfl
  rw [e, Nat.testBit_two_pow_sub_one, decide_eq_true_eq]
  omega
theorem gb_p27 {c : Int} (c0 : 0 ≤ c) : gb 134217728 c ↔ c = 27 := by
  have e : (134217728 : Int) = gh_ishl_f 1 27 := by
    rw [gb_one (k := 27) (by decide) (by decide)]
    rfl
  rw [e]
  exact gb_ishl1 (by decide) (by decide) c0
theorem gbs_p27 : gbs 28 134217728 := ⟨by decide, by decide⟩
theorem gb_mask {Y : Int} (h : gbs 26 Y) : gh_iand_f Y 67108863 = Y ∧ gbs 28 (gh_ior_f Y 134217728) ∧ gh_iand_f (gh_ior_f Y 134217728) 67108863 = Y ∧ ¬ gb Y 27 ∧ gb (gh_ior_f Y 134217728) 27 := by
  have h28 : gbs 28 Y := gbs_le h (by decide)
  have o28 := gbs_or (by decide : (28 : Nat) ≤ 31) h28 gbs_p27
  refine ⟨gb_ext (n := 26) (gbs_and (by decide) h (by decide)) h (fun i i0 i1 => ?_), o28, gb_ext (n := 28) (gbs_and (by decide) o28 (by decide)) h28 (fun i i0 i1 => ?_), fun z => absurd (gb_lt h (by decide) z) (by decide), (gb_ior (by decide : (28 : Nat) ≤ 31) h28 gbs_p27).mpr (Or.inr ((gb_p27 (by decide)).mpr rfl))⟩
  · rw [gb_iand (by decide : (26 : Nat) ≤ 31) h (by decide), gb_p26 i0]
    exact ⟨fun z => z.1, fun z => ⟨z, by omega⟩⟩
  · rw [gb_iand (by decide : (28 : Nat) ≤ 31) o28 (by decide), gb_p26 i0, gb_ior (by decide : (28 : Nat) ≤ 31) h28 gbs_p27, gb_p27 i0]
    constructor
    · rintro ⟨z | z, w⟩
      · exact z
      · omega
    · intro z
      have := gb_lt h i0 z
      exact ⟨Or.inl z, by omega⟩
theorem gm_firstFrom {m : gh_M} {G : gm_G} {Q : Int → Prop} (hG : gm_ok G) (hD : gm_D m G) {E : Int} (hE : ∀ n, 0 ≤ n → n < gm_N G → (m 82 n = 0 ↔ gb E n)) (hF : ∀ n, 0 ≤ n → n < gm_N G → gbs 26 (m 86 n)) {r a : Int} (r0 : 0 ≤ r) (r1 : r < gm_R G) (a0 : 0 ≤ a) (a1 : a ≤ 5) (h : ∀ Y, gbs 26 Y → (∀ c, 0 ≤ c → (gb Y c ↔ gm_fr G E (m 86) r a (gm_s G r) c)) → (gm_er G E r a (-1) → Q (gh_ior_f Y 134217728)) ∧ (¬ gm_er G E r a (-1) → Q Y)) : w_Model_firstFrom r a m Q := by
  obtain ⟨p1, p2, p3, p4, p5⟩ := hG.2.2.2.2.1 r r0 r1
  have hR := hG.2.2.2.1
  have hN := hG.2.1
  obtain ⟨d1, d2, d3⟩ := hD.2.2 r r0 r1
  refine ⟨fun X d g => a ≤ d ∧ d ≤ 5 ∧ (d ≤ gm_s G r ∨ d = a) ∧ gbs 26 X ∧ (g = 0 ∨ g = 1) ∧ (g = 1 → ∀ e, a ≤ e → e < d → gm_n G r e ≠ -1 ∧ gb E (gm_n G r e)) ∧ (g = 0 → ∃ e, a ≤ e ∧ e < d ∧ e < gm_s G r ∧ ¬ (gm_n G r e ≠ -1 ∧ gb E (gm_n G r e))) ∧ ∀ c, 0 ≤ c → (gb X c ↔ gm_fr G E (m 86) r a d c), fun _ d _ => (10 - d).toNat, ⟨Int.le_refl _, a1, Or.inr rfl, gbs_0 _, Or.inr rfl, fun _ e x y => by omega, fun z => by omega, fun c _ => ⟨fun z => absurd z (gb_0 c), fun ⟨e, x, y, _⟩ => by omega⟩⟩, ?_⟩
  rintro X d g ⟨d0, e1, ds, hX, hg, hg1, hg0, hc⟩
  unfold f_Model_firstFrom_8
  rw [d2]
  refine ⟨fun X' g' => X = X' ∧ g = g' ∧ (g = 0 ∨ gm_s G r ≤ d), ?_, fun _ => by omega, fun z => ?_, fun z => ⟨rfl, rfl, by omega⟩⟩
  · rintro _ _ ⟨rfl, rfl, z⟩
    have fr : ∀ c, 0 ≤ c → (gb X c ↔ gm_fr G E (m 86) r a (gm_s G r) c) := fun c c0 => by
      rw [hc c c0]
      constructor
      · rintro ⟨e, y1, y2, y3, y4⟩
        rcases ds with ds | ds
        · exact ⟨e, y1, by omega, y3, y4⟩
        · exact absurd y2 (by omega)
      · rintro ⟨e, y1, y2, y3, y4⟩
        by_cases q : e < d
        · exact ⟨e, y1, q, y3, y4⟩
        · rcases z with z | z
          · obtain ⟨k, k1, k2, k3, k4⟩ := hg0 z
            exact absurd (y3 k k1 (by omega)) k4
          · omega
    obtain ⟨h1, h2⟩ := h X hX fr
    by_cases q : g = 0
    · rw [if_pos q]
      refine h2 (fun y => ?_)
      obtain ⟨k, k1, k2, k3, k4⟩ := hg0 q
      exact k4 (y k k1 k3 (by omega))
    · rw [if_neg q]
      have sd : gm_s G r ≤ d := z.resolve_left q
      have gg := hg.resolve_left q
      clear hg0
      refine h1 (fun e y1 y2 _ => hg1 gg e y1 (by omega))
  · obtain ⟨z1, z2⟩ := z
    have g1 : g = 1 := hg.resolve_left z1
    clear hg0
    have hp := gm_p_n hG r0 r1 (d := d) (by omega) z2
    refine ⟨by omega, by omega, by omega, by omega, ?_⟩
    rintro _ rfl
    rw [d3 d (by omega) z2]
    have hs : gbs 26 (if gm_p G r d ≤ 0 then m 86 (-1 - gm_p G r d) else gm_p G r d) ∧ ∀ l, (gb (if gm_p G r d ≤ 0 then m 86 (-1 - gm_p G r d) else gm_p G r d) l ↔ ((gm_n G r d = -1 ∧ gb (gm_p G r d) l) ∨ (gm_n G r d ≠ -1 ∧ gb (m 86 (gm_n G r d)) l))) := by
      rcases hp with ⟨q1, q2, q3, q4⟩ | ⟨q1, q2, q3⟩
      · rw [if_pos (by omega), ← q2]
        exact ⟨hF _ q3 q4, fun l => ⟨fun y => Or.inr ⟨by omega, y⟩, fun y => y.elim (fun w => by omega) (fun w => w.2)⟩⟩
      · rw [if_neg (by omega)]
        exact ⟨⟨by omega, q2⟩, fun l => ⟨fun y => Or.inl ⟨q3, y⟩, fun y => y.elim (fun w => w.2) (fun w => absurd q3 w.1)⟩⟩
    have hY := gbs_or (by decide : (26 : Nat) ≤ 31) hX hs.1
    refine ⟨fun _ => by omega, ?_⟩
    rintro _ rfl
    refine ⟨fun _ => by omega, ?_⟩
    rintro _ rfl
    have cnd : (gm_p G r d < 0 ∧ m 82 (-1 - gm_p G r d) = 0) ↔ (gm_n G r d ≠ -1 ∧ gb E (gm_n G r d)) := by
      rcases hp with ⟨q1, q2, q3, q4⟩ | ⟨q1, q2, q3⟩
      · rw [← q2, hE _ q3 q4]
        exact ⟨fun y => ⟨by omega, y.2⟩, fun y => ⟨q1, y.2⟩⟩
      · exact ⟨fun y => by omega, fun y => absurd q3 y.1⟩
    refine ⟨by omega, ⟨by omega, by omega, Or.inl (by omega), hY, gh_ib01, fun y e x1 x2 => ?_, fun y => ⟨d, d0, by omega, z2, fun w => ?_⟩, fun c c0 => ?_⟩, by (try dsimp only); omega⟩
    · by_cases q : e = d
      · subst q
        by_cases t : gm_p G r e < 0 ∧ m 82 (-1 - gm_p G r e) = 0
        · exact cnd.mp t
        · rw [if_neg t] at y
          exact absurd y (by decide)
      · exact hg1 g1 e x1 (by omega)
    · rw [if_pos (cnd.mpr w)] at y
      exact absurd y (by decide)
    · rw [gb_ior (by decide : (26 : Nat) ≤ 31) hX hs.1, gm_fr_s d0 (hg1 g1), hc c c0, hs.2 c]
/-- the steps of FIRST for the letter c, of the rules before r -/
def gm_sf (G : gm_G) (E U c r : Int) (P : Int → Prop) (y : Int) : Prop := ∃ q d, 0 ≤ q ∧ q < gm_R G ∧ q < r ∧ gb U q ∧ y = gm_o G q ∧ 0 ≤ d ∧ d < gm_s G q ∧ (∀ e, 0 ≤ e → e < d → gm_n G q e ≠ -1 ∧ gb E (gm_n G q e)) ∧ ((gm_n G q d = -1 ∧ gb (gm_p G q d) c ∧ ∀ x, ¬ P x) ∨ (gm_n G q d ≠ -1 ∧ P (gm_n G q d) ∧ ∀ x, P x → x = gm_n G q d))
theorem gm_sf_wf {G : gm_G} (hG : gm_ok G) {E U c r : Int} : gq_wf (gm_N G).toNat (gm_sf G E U c r) := by
  rintro P y ⟨q, d, q0, q1, q2, u, rfl, d0, d1, e, h⟩
  obtain ⟨g1, g2, g3, g4, g5⟩ := hG.2.2.2.2.1 q q0 q1
  have w := gm_n_rng hG q0 q1 d0 d1
  refine ⟨fun x hx => ?_, by omega, by omega⟩
  rcases h with ⟨_, _, h⟩ | ⟨h1, _, h⟩
  · exact absurd hx (h x)
  · rw [h x hx]
    omega
theorem gm_mFirst {m : gh_M} {G : gm_G} {Q : Int → gh_M → Prop} (hG : gm_ok G) (hD : gm_D m G) {E U : Int} {F : Int → Int} (hE : ∀ n, 0 ≤ n → n < gm_N G → (m 82 n = 0 ↔ gb E n)) (hU : ∀ r, 0 ≤ r → r < gm_R G → (m 83 r ≠ 0 ↔ gb U r)) (f1 : ∀ n, 0 ≤ n → n < gm_N G → gbs 26 (F n)) (f2 : ∀ c, 0 ≤ c → gm_fc G E U c (fun n => gb (F n) c)) (f3 : ∀ c, 0 ≤ c → ∀ Z, gm_fc G E U c Z → ∀ n, 0 ≤ n → n < gm_N G → gb (F n) c → Z n) (h : ∀ m1, gx [86] m m1 → (∀ n, 0 ≤ n → n < gm_N G → m1 86 n = F n) → Q 0 m1) : w_Model_findFirst m Q := by
  have hN0 := hG.1
  have hN := hG.2.1
  have hR0 := hG.2.2.1
  have hR := hG.2.2.2.1
  refine ⟨fun n m1 => 0 ≤ n ∧ n ≤ gm_N G ∧ gx [86] m m1 ∧ ∀ i, 0 ≤ i → i < n → m1 86 i = 0, fun n _ => (10 - n).toNat, ⟨Int.le_refl _, by omega, gx_rf, fun i a b => by omega⟩, ?_⟩
  rintro n m1 ⟨n0, n1, hx, hi⟩
  unfold f_Model_findFirst_2
  rw [(gm_D_x hx (by decide) hD).1]
  refine ⟨fun c => ⟨by omega, by omega, by omega, ⟨by omega, by omega, gx_u hx (List.mem_singleton.mpr rfl), fun i i0 i1 => ?_⟩, by (try dsimp only); omega⟩, fun c => ?_⟩
  · by_cases e : i = n
    · rw [e, gh_u_s]
    · rw [gh_u_i e]
      exact hi i i0 (by omega)
  have wf : ∀ c r, gq_wf (gm_N G).toNat (gm_sf G E U c r) := fun c r => gm_sf_wf hG
  refine ⟨fun v m2 => 0 ≤ v ∧ v ≤ gm_N G ∧ gx [86] m m2 ∧ (∀ n, 0 ≤ n → n < gm_N G → gbs 26 (m2 86 n)) ∧ ∀ c, 0 ≤ c → (∀ n : Int, 0 ≤ n → n < (gm_N G).toNat → gq_col (m2 86) c n ≠ 0 → gb (F n) c) ∧ (gq_cl (gm_sf G E U c (gm_R G)) (gq_col (m2 86) c) ∨ v ≤ gq_ct (gm_N G).toNat (gq_col (m2 86) c)), fun v _ => (30 - v).toNat, ⟨by omega, by omega, hx, fun i i0 i1 => by rw [hi i i0 (by omega)]; exact gbs_0 _, fun c c0 => ⟨fun i i0 i1 z => ?_, Or.inr (by omega)⟩⟩, ?_⟩
  · have : gb (m1 86 i) c := gq_bit_ne.mp z
    rw [hi i i0 (by omega)] at this
    exact absurd this (gb_0 c)
  rintro v m2 ⟨v0, v1, hx2, hb2, hc2⟩
  unfold f_Model_findFirst_25
  have cm2 := gm_D_x hx2 (by decide) hD
  rw [cm2.1]
  refine ⟨fun c2 => ?_, fun c2 => ?_⟩
  · refine ⟨fun r m3 => 0 ≤ r ∧ r ≤ gm_R G ∧ gx [86] m m3 ∧ (∀ n, 0 ≤ n → n < gm_N G → gbs 26 (m3 86 n)) ∧ ∀ c, 0 ≤ c → gq_ps (gm_N G).toNat (gm_sf G E U c (gm_R G)) (gm_sf G E U c r) (fun n => gb (F n) c) (gq_col (m2 86) c) (gq_col (m3 86) c), fun r _ => (30 - r).toNat, ⟨by omega, by omega, hx2, hb2, fun c c0 => gq_init (fun _ _ _ => gq_bit_01) (hc2 c c0).1 ?_⟩, ?_⟩
    · rintro P y ⟨q, d, q0, q1, q2, _⟩
      omega
    rintro r m3 ⟨r0, r1, hx3, hb3, ps⟩
    have cm3 := gm_D_x hx3 (by decide) hD
    have e82 : m3 82 = m 82 := hx3 82 (by decide)
    have e83 : m3 83 = m 83 := hx3 83 (by decide)
    unfold f_Model_findFirst_35
    rw [cm3.2.1]
    refine ⟨fun c3 => ?_, fun c3 => ⟨by omega, ⟨by omega, by omega, hx3, hb3, fun c c0 => ?_⟩, by (try dsimp only); omega⟩⟩
    · obtain ⟨g1, g2, g3, g4, g5⟩ := hG.2.2.2.2.1 r r0 c3
      rw [(cm3.2.2 r r0 c3).1, e83]
      refine ⟨r0, by omega, fun m4 => gx [86] m m4 ∧ (∀ n, 0 ≤ n → n < gm_N G → gbs 26 (m4 86 n)) ∧ ∀ c, 0 ≤ c → gq_ps (gm_N G).toNat (gm_sf G E U c (gm_R G)) (gm_sf G E U c (r + 1)) (fun n => gb (F n) c) (gq_col (m2 86) c) (gq_col (m4 86) c), ?_, fun z => ⟨hx3, hb3, fun c c0 => gq_skip (wf _ _) (ps c c0) (fun P y s => ?_)⟩, fun z => ?_⟩
      · rintro m4 ⟨j1, j2, j3⟩
        exact ⟨by omega, ⟨by omega, by omega, j1, j2, j3⟩, by (try dsimp only); omega⟩
      · obtain ⟨q, d, q0, q1, q2, u, s⟩ := s
        by_cases e : q = r
        · subst e
          exact absurd ((hU _ q0 q1).mpr u) (fun w => w z)
        · exact Or.inl ⟨q, d, q0, q1, by omega, u, s⟩
      · have u : gb U r := (hU r r0 c3).mp z
        refine ⟨r0, by omega, g1, by omega, ?_⟩
        refine gm_firstFrom (E := E) hG cm3 (by rw [e82]; exact hE) hb3 r0 c3 (Int.le_refl _) (by decide) (fun Y hY hc => ?_)
        have fin : 0 ≤ gm_o G r ∧ gm_o G r < 8 ∧ gx [86] m (gh_u m3 86 (gm_o G r) (gh_ior_f (m3 86 (gm_o G r)) Y)) ∧ (∀ n, 0 ≤ n → n < gm_N G → gbs 26 ((gh_u m3 86 (gm_o G r) (gh_ior_f (m3 86 (gm_o G r)) Y)) 86 n)) ∧ ∀ c, 0 ≤ c → gq_ps (gm_N G).toNat (gm_sf G E U c (gm_R G)) (gm_sf G E U c (r + 1)) (fun n => gb (F n) c) (gq_col (m2 86) c) (gq_col ((gh_u m3 86 (gm_o G r) (gh_ior_f (m3 86 (gm_o G r)) Y)) 86) c) := by
          refine ⟨g1, by omega, gx_u hx3 (List.mem_singleton.mpr rfl), fun n n0 n1 => ?_, fun c c0 => ?_⟩
          · rw [gm_u_rowa]
            unfold gm_upd
            split
            · exact gbs_or (by decide) (hb3 _ g1 g2) hY
            · exact hb3 n n0 n1
          · rw [gm_u_rowa, gq_col_upd]
            have key : ∀ P, gm_sf G E U c (r + 1) P (gm_o G r) → True := fun _ _ => trivial
            refine gq_setS (S := fun P => ∃ d, 0 ≤ d ∧ d < gm_s G r ∧ (∀ e, 0 ≤ e → e < d → gm_n G r e ≠ -1 ∧ gb E (gm_n G r e)) ∧ ((gm_n G r d = -1 ∧ gb (gm_p G r d) c ∧ ∀ x, ¬ P x) ∨ (gm_n G r d ≠ -1 ∧ P (gm_n G r d) ∧ ∀ x, P x → x = gm_n G r d))) (wf _ _) g1 (by omega) (fun P ⟨d, d0, d1, s⟩ => ⟨r, d, r0, c3, by omega, u, rfl, d0, d1, s⟩) (ps c c0) (fun P ⟨d, d0, d1, s1, s2⟩ hp => ?_) gq_bit_01 ?_ (fun P y s => ?_)
            · refine f2 c c0 r r0 c3 u ⟨d, d0, d1, s1, ?_⟩
              rcases s2 with ⟨s2, s3, _⟩ | ⟨s2, s3, _⟩
              · exact Or.inl ⟨s2, s3⟩
              · exact Or.inr ⟨s2, hp _ s3⟩
            · rw [gq_bit_ne, gb_ior (by decide : (26 : Nat) ≤ 31) (hb3 _ g1 g2) hY, hc c c0]
              refine or_congr gq_bit_ne.symm ?_
              constructor
              · rintro ⟨d, d0, d1, s1, s2⟩
                rcases s2 with ⟨s2, s3⟩ | ⟨s2, s3⟩
                · exact ⟨fun _ => False, ⟨d, d0, d1, s1, Or.inl ⟨s2, s3, fun _ => id⟩⟩, fun x => False.elim⟩
                · exact ⟨fun x => x = gm_n G r d, ⟨d, d0, d1, s1, Or.inr ⟨s2, rfl, fun x => id⟩⟩, fun x hx => by rw [hx]; exact gq_bit_ne.mpr s3⟩
              · rintro ⟨P, ⟨d, d0, d1, s1, s2⟩, hp⟩
                refine ⟨d, d0, d1, s1, ?_⟩
                rcases s2 with ⟨s2, s3, _⟩ | ⟨s2, s3, _⟩
                · exact Or.inl ⟨s2, s3⟩
                · exact Or.inr ⟨s2, gq_bit_ne.mp (hp _ s3)⟩
            · obtain ⟨q, d, q0, q1, q2, w, e1, s⟩ := s
              by_cases e : q = r
              · subst e
                exact Or.inr ⟨e1, P, ⟨d, s⟩, fun x => id⟩
              · exact Or.inl ⟨q, d, q0, q1, by omega, w, e1, s⟩
        obtain ⟨b1, b2, b3, b4, b5⟩ := gb_mask hY
        refine ⟨fun _ => ?_, fun _ => ?_⟩
        · rw [b3]
          exact fin
        · rw [b1]
          exact fin
    · have e : r = gm_R G := by omega
      subst e
      exact ⟨(ps c c0).2.2.1, gq_round (wf _ _) (ps c c0) (hc2 c c0).2⟩
  · refine h m2 hx2 (fun n n0 n1 => gb_ext (hb2 n n0 n1) (f1 n n0 n1) (fun c c0 _ => ⟨fun z => (hc2 c c0).1 n n0 (by omega) (gq_bit_ne.mpr z), fun z => ?_⟩))
    have cl := gq_full (wf _ _) (by omega) (hc2 c c0).2
    refine f3 c c0 (fun n => gb (m2 86 n) c) (fun r r0 r1 u ⟨d, d0, d1, s1, s2⟩ => ?_) n n0 n1 z
    rcases s2 with ⟨s2, s3⟩ | ⟨s2, s3⟩
    · exact gq_bit_ne.mp (cl (fun _ => False) _ ⟨r, d, r0, r1, r1, u, rfl, d0, d1, s1, Or.inl ⟨s2, s3, fun _ => id⟩⟩ (fun x => False.elim))
    · exact gq_bit_ne.mp (cl (fun x => x = gm_n G r d) _ ⟨r, d, r0, r1, r1, u, rfl, d0, d1, s1, Or.inr ⟨s2, rfl, fun x => id⟩⟩ (fun x hx => by rw [hx]; exact gq_bit_ne.mpr s3))
