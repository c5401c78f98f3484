/-! THE MODEL'S USEFUL RULES, REACHED AND USEFUL NAMES -/
/-- steps by rules B from a rule's name to a name among its parts, of those before k -/
def gm_sk (G : gm_G) (B : Int → Prop) (k : Int) (P : Int → Prop) (y : Int) : Prop := ∃ r d, 0 ≤ r ∧ r < gm_R G ∧ 0 ≤ d ∧ d < gm_s G r ∧ 4 * r + d < k ∧ B r ∧ gm_p G r d < 0 ∧ y = gm_n G r d ∧ P (gm_o G r) ∧ ∀ x, P x → x = gm_o G r
theorem gm_sk_wf {G : gm_G} (hG : gm_ok G) {B : Int → Prop} {k : Int} : gq_wf (gm_N G).toNat (gm_sk G B k) := by
  rintro P y ⟨r, d, r0, r1, d0, d1, k1, b1, q1, rfl, p0, p1⟩
  obtain ⟨g1, g2, g3, g4, g5⟩ := hG.2.2.2.2.1 r r0 r1
  have w := gm_p_n hG r0 r1 d0 d1
  exact ⟨fun x hx => by rw [p1 x hx]; omega, by omega, by omega⟩
theorem gm_sk_s {G : gm_G} (hG : gm_ok G) {B : Int → Prop} {k : Int} (k0 : 0 ≤ k) {P : Int → Prop} {y : Int} (h : gm_sk G B (k + 1) P y) : gm_sk G B k P y ∨ (k % 4 < gm_s G (k / 4) ∧ B (k / 4) ∧ gm_p G (k / 4) (k % 4) < 0 ∧ y = gm_n G (k / 4) (k % 4) ∧ P (gm_o G (k / 4)) ∧ ∀ x, P x → x = gm_o G (k / 4)) := by
  obtain ⟨r, d, r0, r1, d0, d1, k1, b1, q1, q2, p0, p1⟩ := h
  obtain ⟨g1, g2, g3, g4, g5⟩ := hG.2.2.2.2.1 r r0 r1
  by_cases c : 4 * r + d < k
  · exact Or.inl ⟨r, d, r0, r1, d0, d1, c, b1, q1, q2, p0, p1⟩
  · right
    have e1 : k / 4 = r := by omega
    have e2 : k % 4 = d := by omega
    rw [e1, e2]
    exact ⟨d1, b1, q1, q2, p0, p1⟩
/-- the model's tables: rules that are useful, names that are reached, names that are useful -/
def gm_mu (G : gm_G) (M : Int → Int) (X Y : Int → Prop) (m : gh_M) : Prop := (∀ r, 0 ≤ r → r < gm_R G → m 83 r = if gm_lk 1000000000 G M r 0 < 1000000000 then 1 else 0) ∧ (∀ n, 0 ≤ n → n < gm_N G → (m 84 n = 0 ∨ m 84 n = 1) ∧ (m 84 n ≠ 0 ↔ X n)) ∧ (∀ n, 0 ≤ n → n < gm_N G → (m 85 n = 0 ∨ m 85 n = 1) ∧ (m 85 n ≠ 0 ↔ Y n))
/-- X is what rules B lead to from name 0, where st -/
def gm_Spr (G : gm_G) (B : Int → Prop) (st : Prop) (X : Int → Prop) : Prop := (st → X 0) ∧ (∀ r d, 0 ≤ r → r < gm_R G → 0 ≤ d → d < gm_s G r → B r → gm_p G r d < 0 → X (gm_o G r) → X (gm_n G r d)) ∧ ∀ Z : Int → Prop, (st → Z 0) → (∀ r d, 0 ≤ r → r < gm_R G → 0 ≤ d → d < gm_s G r → B r → gm_p G r d < 0 → Z (gm_o G r) → Z (gm_n G r d)) → ∀ n, 0 ≤ n → n < gm_N G → X n → Z n
theorem gm_Spr_of {G : gm_G} (hG : gm_ok G) {B F : Int} (hF : gbs (gm_N G).toNat F) (h1 : gm_Scl G B F) (h2 : gm_Sso G B F) : gm_Spr G (gb B) True (gb F) := by
  have hN := hG.2.1
  have hN0 := hG.1
  refine ⟨fun _ => h1.1, fun r d r0 r1 d0 d1 b1 q1 z => ?_, fun Z z1 z2 n n0 n1 hn => ?_⟩
  · have w := gm_p_n hG r0 r1 d0 d1
    exact h1.2 r r0 r1 b1 z d d0 d1 (by omega)
  · obtain ⟨V, v1, v2⟩ := gb_ex Z (gm_N G).toNat (by omega)
    refine (v2 n n0 (by omega)).mp (h2 V ⟨(v2 0 (Int.le_refl _) (by omega)).mpr (z1 trivial), fun r r0 r1 b1 z d d0 d1 d2 => ?_⟩ n n0 hn)
    obtain ⟨g1, g2, g3, g4, g5⟩ := hG.2.2.2.2.1 r r0 r1
    have w := gm_p_n hG r0 r1 d0 d1
    exact (v2 _ (by omega) (by omega)).mpr (z2 r d r0 r1 d0 d1 b1 (by omega) ((v2 _ g1 (by omega)).mp z))
theorem gm_Spr_none {G : gm_G} {B : Int → Prop} : gm_Spr G B False (fun _ => False) := ⟨id, fun _ _ _ _ _ _ _ _ => id, fun _ _ _ _ _ _ => False.elim⟩
theorem gm_Spr_out {G : gm_G} (hG : gm_ok G) {B : Int → Prop} {st : Prop} {X : Int → Prop} {A : Int → Int} (h : gm_Spr G B st X) (h0 : st → A 0 ≠ 0) (hc : gq_cl (gm_sk G B (4 * gm_R G)) A) {n : Int} (n0 : 0 ≤ n) (n1 : n < gm_N G) (hn : X n) : A n ≠ 0 :=
  h.2.2 (fun n => A n ≠ 0) h0 (fun r d r0 r1 d0 d1 b1 q1 z => hc (fun x => x = gm_o G r) _ ⟨r, d, r0, r1, d0, d1, by have := hG.2.2.2.2.1 r r0 r1; have := this.2.2.2.1; omega, b1, q1, rfl, rfl, fun x => id⟩ (fun x hx => by rw [hx]; exact z)) n n0 n1 hn
theorem gm_mUseful {m : gh_M} {G : gm_G} {Q : Int → gh_M → Prop} (hG : gm_ok G) (hD : gm_D m G) (hL : gm_Kr 1000000000 G (m 82)) {X Y : Int → Prop} (hX : gm_Spr G (fun _ => True) True X) (hY : gm_Spr G (fun r => gm_lk 1000000000 G (m 82) r 0 < 1000000000) (m 82 0 < 1000000000) Y) (h : ∀ m1, gx [83, 84, 85] m m1 → gm_mu G (m 82) X Y m1 → Q 0 m1) : w_Model_findUseful m Q := by
  have hN0 := hG.1
  have hN := hG.2.1
  have hR0 := hG.2.2.1
  have hR := hG.2.2.2.1
  refine ⟨fun r m1 => 0 ≤ r ∧ r ≤ gm_R G ∧ gx [83, 84, 85] m m1 ∧ ∀ q, 0 ≤ q → q < r → m1 83 q = if gm_lk 1000000000 G (m 82) q 0 < 1000000000 then 1 else 0, fun r _ => (30 - r).toNat, ⟨Int.le_refl _, by omega, gx_rf, fun q a b => by omega⟩, ?_⟩
  rintro r m1 ⟨r0, r1, hx, hq⟩
  unfold f_Model_findUseful_2
  have cm := gm_D_x hx (by decide) hD
  have e82 := hx 82 (by decide)
  rw [cm.2.1]
  refine ⟨fun c => ?_, fun c => ?_⟩
  · refine gm_leastOf hG cm (by rw [e82]; exact hL) r0 c (Int.le_refl _) (by decide) ?_
    rw [e82]
    refine ⟨r0, by omega, by omega, ⟨by omega, by omega, gx_u hx (by decide), fun q q0 q1 => ?_⟩, by (try dsimp only); omega⟩
    by_cases e : q = r
    · rw [e, gh_u_s]
    · rw [gh_u_i e]
      exact hq q q0 (by omega)
  have u83 : ∀ q, 0 ≤ q → q < gm_R G → m1 83 q = if gm_lk 1000000000 G (m 82) q 0 < 1000000000 then 1 else 0 := fun q q0 q1 => hq q q0 (by omega)
  refine ⟨fun n m2 => 0 ≤ n ∧ n ≤ gm_N G ∧ gx [84, 85] m1 m2 ∧ (∀ i, 0 ≤ i → i < n → m2 84 i = if i = 0 then 1 else 0) ∧ ∀ i, 0 ≤ i → i < n → m2 85 i = if i = 0 ∧ m 82 0 < 1000000000 then 1 else 0, fun n _ => (30 - n).toNat, ⟨Int.le_refl _, by omega, gx_rf, fun q a b => by omega, fun q a b => by omega⟩, ?_⟩
  rintro n m2 ⟨n0, n1, hx2, hi, hj⟩
  unfold f_Model_findUseful_41
  have cm2 := gm_D_x hx2 (by decide) cm
  have e82b : m2 82 = m 82 := (hx2 82 (by decide)).trans e82
  rw [cm2.1, e82b]
  refine ⟨fun c => ⟨by omega, by omega, by omega, by omega, by omega, ⟨by omega, by omega, gx_u (gx_u hx2 (by decide)) (by decide), fun i i0 i1 => ?_, fun i i0 i1 => ?_⟩, by (try dsimp only); omega⟩, fun c => ?_⟩
  · rw [gh_u_a (by decide)]
    by_cases e : i = n
    · rw [e, gh_u_s]
    · rw [gh_u_i e]
      exact hi i i0 (by omega)
  · by_cases e : i = n
    · rw [e, gh_u_s]
    · rw [gh_u_i e, gh_u_a (by decide)]
      exact hj i i0 (by omega)
  have wf1 : ∀ k, gq_wf (gm_N G).toNat (gm_sk G (fun _ => True) k) := fun k => gm_sk_wf hG
  have wf2 : ∀ k, gq_wf (gm_N G).toNat (gm_sk G (fun r => gm_lk 1000000000 G (m 82) r 0 < 1000000000) k) := fun k => gm_sk_wf hG
  have b01 : ∀ {p : Prop} [Decidable p], (if p then (1 : Int) else 0) = 0 ∨ (if p then (1 : Int) else 0) = 1 := fun {p} _ => gh_ib01
  refine ⟨fun v m3 => 0 ≤ v ∧ v ≤ gm_N G ∧ gx [84, 85] m1 m3 ∧ ((∀ n : Int, 0 ≤ n → n < (gm_N G).toNat → m3 84 n = 0 ∨ m3 84 n = 1) ∧ (∀ n : Int, 0 ≤ n → n < (gm_N G).toNat → m3 84 n ≠ 0 → X n) ∧ m3 84 0 ≠ 0 ∧ (gq_cl (gm_sk G (fun _ => True) (4 * gm_R G)) (m3 84) ∨ v ≤ gq_ct (gm_N G).toNat (m3 84))) ∧ ((∀ n : Int, 0 ≤ n → n < (gm_N G).toNat → m3 85 n = 0 ∨ m3 85 n = 1) ∧ (∀ n : Int, 0 ≤ n → n < (gm_N G).toNat → m3 85 n ≠ 0 → Y n) ∧ (m 82 0 < 1000000000 → m3 85 0 ≠ 0) ∧ (gq_cl (gm_sk G (fun r => gm_lk 1000000000 G (m 82) r 0 < 1000000000) (4 * gm_R G)) (m3 85) ∨ v ≤ gq_ct (gm_N G).toNat (m3 85))), fun v _ => (30 - v).toNat, ⟨by omega, by omega, hx2, ⟨fun i i0 i1 => ?_, fun i i0 i1 z => ?_, ?_, Or.inr (by omega)⟩, ⟨fun i i0 i1 => ?_, fun i i0 i1 z => ?_, fun z => ?_, Or.inr (by omega)⟩⟩, ?_⟩
  · rw [hi i i0 (by omega)]
    exact b01
  · rw [hi i i0 (by omega)] at z
    by_cases e : i = 0
    · rw [e]
      exact hX.1 trivial
    · rw [if_neg e] at z
      exact absurd rfl z
  · rw [hi 0 (by omega) (by omega)]
    decide
  · rw [hj i i0 (by omega)]
    exact b01
  · rw [hj i i0 (by omega)] at z
    by_cases e : i = 0 ∧ m 82 0 < 1000000000
    · rw [e.1]
      exact hY.1 e.2
    · rw [if_neg e] at z
      exact absurd rfl z
  · rw [hj 0 (by omega) (by omega), if_pos ⟨rfl, z⟩]
    decide
  rintro v m3 ⟨v0, v1, hx3, ⟨a1, a2, a3, a4⟩, ⟨b1, b2, b3, b4⟩⟩
  unfold f_Model_findUseful_99
  have cm3 := gm_D_x hx3 (by decide) cm
  rw [cm3.1]
  refine ⟨fun c2 => ?_, fun c2 => ?_⟩
  · refine ⟨fun k m4 => 0 ≤ k ∧ k ≤ 4 * gm_R G ∧ gx [84, 85] m1 m4 ∧ gq_ps (gm_N G).toNat (gm_sk G (fun _ => True) (4 * gm_R G)) (gm_sk G (fun _ => True) k) X (m3 84) (m4 84) ∧ gq_ps (gm_N G).toNat (gm_sk G (fun r => gm_lk 1000000000 G (m 82) r 0 < 1000000000) (4 * gm_R G)) (gm_sk G (fun r => gm_lk 1000000000 G (m 82) r 0 < 1000000000) k) Y (m3 85) (m4 85), fun k _ => (100 - k).toNat, ⟨by omega, by omega, hx3, gq_init a1 a2 ?_, gq_init b1 b2 ?_⟩, ?_⟩
    · rintro P y ⟨r, d, h1, h2, h3, h4, h5, _⟩
      omega
    · rintro P y ⟨r, d, h1, h2, h3, h4, h5, _⟩
      omega
    rintro k m4 ⟨k0, k1, hx4, ps1, ps2⟩
    have cm4 := gm_D_x hx4 (by decide) cm
    have e83 : m4 83 = m1 83 := hx4 83 (by decide)
    unfold f_Model_findUseful_109
    rw [cm4.2.1]
    refine ⟨by omega, fun c3 => ⟨k0, ?_⟩, fun c3 => ⟨by omega, ⟨by omega, by omega, hx4, ?_, ?_⟩, by (try dsimp only); omega⟩⟩
    · rintro _ rfl
      have r0 : 0 ≤ k / 4 := by omega
      have r1 : k / 4 < gm_R G := by omega
      obtain ⟨g1, g2, g3, g4, g5⟩ := hG.2.2.2.2.1 (k / 4) r0 r1
      obtain ⟨d1, d2, d3⟩ := cm4.2.2 (k / 4) r0 r1
      have kk : 4 * (k / 4) + k % 4 = k := by omega
      rw [d2, d1, e83, u83 _ r0 r1]
      refine ⟨k0, r0, by omega, fun m5 => gx [84, 85] m1 m5 ∧ gq_ps (gm_N G).toNat (gm_sk G (fun _ => True) (4 * gm_R G)) (gm_sk G (fun _ => True) (k + 1)) X (m3 84) (m5 84) ∧ gq_ps (gm_N G).toNat (gm_sk G (fun r => gm_lk 1000000000 G (m 82) r 0 < 1000000000) (4 * gm_R G)) (gm_sk G (fun r => gm_lk 1000000000 G (m 82) r 0 < 1000000000) (k + 1)) Y (m3 85) (m5 85), ?_, fun _ => by omega, fun z => ?_, fun z => ?_⟩
      · rintro m5 ⟨j1, j2, j3⟩
        exact ⟨by omega, ⟨by omega, by omega, j1, j2, j3⟩, by (try dsimp only); omega⟩
      · have pe := d3 (k % 4) (by omega) z.1
        rw [kk] at pe
        have z2 := z.2
        rw [pe] at z2 ⊢
        have w := gm_p_n hG r0 r1 (d := k % 4) (by omega) z.1
        have ne : -1 - gm_p G (k / 4) (k % 4) = gm_n G (k / 4) (k % 4) := by omega
        refine ⟨by omega, by omega, by omega, ?_⟩
        rintro _ rfl
        rw [ne]
        refine ⟨by omega, by omega, fun _ => by omega, by omega, by omega, by omega, by omega, fun _ => ⟨by omega, by omega, by omega, by omega, fun _ => by omega⟩, by omega, by omega, gx_u (gx_u hx4 (by decide)) (by decide), ?_, ?_⟩
        · rw [gm_u_row2 (by decide), gm_u_rowa]
          refine gq_set (P0 := fun x => x = gm_o G (k / 4)) (wf1 _) ⟨k / 4, k % 4, r0, r1, by omega, z.1, by omega, trivial, z2, rfl, rfl, fun x => id⟩ ps1 (fun y => hX.2.1 _ _ r0 r1 (by omega) z.1 trivial z2 (y _ rfl)) gh_ib01 ?_ (fun P y q => ?_)
          · constructor
            · intro y
              by_cases t : ¬ m4 84 (gm_n G (k / 4) (k % 4)) = 0 ∨ ¬ m4 84 (gm_o G (k / 4)) = 0
              · exact t.imp id (fun u x hx => by rw [hx]; exact u)
              · rw [if_neg t] at y
                exact absurd rfl y
            · intro y
              rw [if_pos (y.imp id (fun u => u _ rfl))]
              decide
          · rcases gm_sk_s hG k0 q with q | ⟨_, _, _, q1, q2, q3⟩
            · exact Or.inl q
            · exact Or.inr ⟨q1, fun x hx => by rw [hx]; exact q2⟩
        · rw [gm_u_rowa, gm_u_row2 (by decide)]
          by_cases us : gm_lk 1000000000 G (m 82) (k / 4) 0 < 1000000000
          · refine gq_set (P0 := fun x => x = gm_o G (k / 4)) (wf2 _) ⟨k / 4, k % 4, r0, r1, by omega, z.1, by omega, us, z2, rfl, rfl, fun x => id⟩ ps2 (fun y => hY.2.1 _ _ r0 r1 (by omega) z.1 us z2 (y _ rfl)) gh_ib01 ?_ (fun P y q => ?_)
            · rw [if_pos us]
              constructor
              · intro y
                by_cases t : ¬ m4 85 (gm_n G (k / 4) (k % 4)) = 0 ∨ ¬ m4 85 (gm_o G (k / 4)) = 0 ∧ ¬ (1 : Int) = 0
                · exact t.imp id (fun u x hx => by rw [hx]; exact u.1)
                · rw [if_neg t] at y
                  exact absurd rfl y
              · intro y
                rw [if_pos (y.imp id (fun u => ⟨u _ rfl, by decide⟩))]
                decide
            · rcases gm_sk_s hG k0 q with q | ⟨_, _, _, q1, q2, q3⟩
              · exact Or.inl q
              · exact Or.inr ⟨q1, fun x hx => by rw [hx]; exact q2⟩
          · rw [if_neg us]
            have same : gm_upd (m4 85) (gm_n G (k / 4) (k % 4)) (if ¬ m4 85 (gm_n G (k / 4) (k % 4)) = 0 ∨ ¬ m4 85 (gm_o G (k / 4)) = 0 ∧ ¬ (0 : Int) = 0 then 1 else 0) = m4 85 := by
              funext j
              unfold gm_upd
              split
              · next e =>
                have bb := ps2.1 (gm_n G (k / 4) (k % 4)) (by omega) (by omega)
                rw [e]
                by_cases t : m4 85 (gm_n G (k / 4) (k % 4)) = 0
                · rw [if_neg (fun y => y.elim (fun u => u t) (fun u => u.2 rfl)), t]
                · rw [if_pos (Or.inl t)]
                  omega
              · rfl
            rw [same]
            exact gq_skip (wf2 _) ps2 (fun P y q => (gm_sk_s hG k0 q).imp id (fun w => absurd w.2.1 us))
      · have no : ¬ (k % 4 < gm_s G (k / 4) ∧ gm_p G (k / 4) (k % 4) < 0) := fun y => z ⟨y.1, by
          have pe := d3 (k % 4) (by omega) y.1
          rw [kk] at pe
          rw [pe]
          exact y.2⟩
        exact ⟨hx4, gq_skip (wf1 _) ps1 (fun P y q => (gm_sk_s hG k0 q).imp id (fun w => absurd ⟨w.1, w.2.2.1⟩ no)), gq_skip (wf2 _) ps2 (fun P y q => (gm_sk_s hG k0 q).imp id (fun w => absurd ⟨w.1, w.2.2.1⟩ no))⟩
    · have e : k = 4 * gm_R G := by omega
      subst e
      exact ⟨ps1.1, ps1.2.2.1, ps1.2.1 0 (by omega) (by omega) a3, gq_round (wf1 _) ps1 a4⟩
    · have e : k = 4 * gm_R G := by omega
      subst e
      exact ⟨ps2.1, ps2.2.2.1, fun y => ps2.2.1 0 (by omega) (by omega) (b3 y), gq_round (wf2 _) ps2 b4⟩
  · have c1 := gq_full (wf1 _) (by omega) a4
    have c4 := gq_full (wf2 _) (by omega) b4
    refine h m3 ?_ ⟨fun r r0 r1 => ?_, fun n n0 n1 => ⟨a1 n n0 (by omega), fun z => a2 n n0 (by omega) z, fun z => gm_Spr_out hG hX (fun _ => a3) c1 n0 n1 z⟩, fun n n0 n1 => ⟨b1 n n0 (by omega), fun z => b2 n n0 (by omega) z, fun z => gm_Spr_out hG hY b3 c4 n0 n1 z⟩⟩
    · exact gx_tr (T := [84, 85]) hx (gx_sub hx3 (by decide))
    · rw [hx3 83 (by decide)]
      exact u83 r r0 r1
