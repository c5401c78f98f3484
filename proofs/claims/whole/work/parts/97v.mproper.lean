/-! THE PROPER GRAMMAR: the model finds it, and counts it -/
theorem gy_doesEnd {G : gm_G} {m : gh_M} {Q : Int → Prop} {a : Int} (hG : gm_ok G) (a0 : 0 ≤ a) (a1 : a < 320) (sz : 0 ≤ m 89 a ∧ m 89 a ≤ 4) (ok : gy_ok G (gy_mr m a)) (H : ∀ v, (v = 0 ∨ v = 1) → (v = 1 ↔ ∀ p, p ∈ gy_mr m a → p < 0 → m 94 (-1 - p) ≠ 0) → Q v) : w_Model_doesEnd a m Q := by
  have hN := hG.2.1
  refine ⟨fun v d => 0 ≤ d ∧ d ≤ m 89 a ∧ (v = 0 ∨ v = 1) ∧ (v = 1 ↔ ∀ e, 0 ≤ e → e < d → m 90 (4 * a + e) < 0 → m 94 (-1 - m 90 (4 * a + e)) ≠ 0), fun v d => (10 - d).toNat, ⟨Int.le_refl _, sz.1, Or.inr rfl, fun _ e x y => by omega, fun _ => rfl⟩, ?_⟩
  rintro v d ⟨d0, d1, v01, hv⟩
  unfold f_Model_doesEnd_4
  refine ⟨a0, a1, fun c => ?_, fun c => ⟨v01, H v v01 ?_⟩⟩
  · have okp := ok (m 90 (4 * a + d)) ((gy_mr_mem sz.1).mpr ⟨d, d0, c, rfl⟩)
    refine ⟨by omega, by omega, by omega, by omega, ?_⟩
    intro v4 hv4
    rw [hv4]
    clear hv4 v4
    refine ⟨fun _ _ => by omega, ?_⟩
    intro v' hv'
    refine ⟨by omega, ⟨by omega, by omega, by rw [hv']; exact gh_ib01, ?_⟩, by (try dsimp only); omega⟩
    rw [hv']
    by_cases u : ¬ v = 0 ∧ (¬ m 90 (4 * a + d) ≤ 0 ∨ ¬ m 94 (-1 - m 90 (4 * a + d)) = 0)
    · rw [if_pos u]
      have vv := hv.mp (by omega)
      refine ⟨fun _ e x y z => ?_, fun _ => rfl⟩
      by_cases q : e = d
      · rw [q] at z ⊢
        rcases u.2 with w | w
        · omega
        · exact w
      · exact vv e x (by omega) z
    · rw [if_neg u]
      refine ⟨fun y => absurd y (by decide), fun y => absurd ⟨fun z => ?_, ?_⟩ u⟩
      · have := hv.mpr (fun e x y' z' => y e x (by omega) z')
        omega
      · by_cases q : m 90 (4 * a + d) ≤ 0
        · exact Or.inr (y d d0 (by omega) (by omega))
        · exact Or.inl q
  · rw [hv]
    have e : d = m 89 a := by omega
    rw [e]
    constructor
    · intro y p hp p0
      obtain ⟨x, x0, x1, x2⟩ := (gy_mr_mem sz.1).mp hp
      rw [← x2]
      exact y x x0 x1 (by omega)
    · intro y x x0 x1 x2
      exact y _ ((gy_mr_mem sz.1).mpr ⟨x, x0, x1, rfl⟩) x2
/-- steps to a name that ends -/
def gy_s1 (G : gm_G) (h : Int → Int → Prop) (r : Int → List Int) (q k : Int) (P : Int → Prop) (y : Int) : Prop := ∃ n a, 0 ≤ n ∧ n < gm_N G ∧ 0 ≤ a ∧ a < q ∧ 320 * n + a < k ∧ h n a ∧ y = n ∧ ∀ x, P x ↔ 0 ≤ x ∧ -1 - x ∈ r a
/-- steps to a name of the proper grammar -/
def gy_s2 (G : gm_G) (h : Int → Int → Prop) (r : Int → List Int) (s : Int → Int) (pa : Int → Int) (D : List Int → Prop) (q k d : Int) (P : Int → Prop) (y : Int) : Prop := ∃ n a e, 0 ≤ n ∧ n < gm_N G ∧ 0 ≤ a ∧ a < q ∧ 0 ≤ e ∧ e < s a ∧ (320 * n + a < k ∨ (320 * n + a = k ∧ e < d)) ∧ h n a ∧ D (r a) ∧ pa (4 * a + e) < 0 ∧ y = -1 - pa (4 * a + e) ∧ P n ∧ ∀ x, P x → x = n
theorem gy_findProper {G : gm_G} {E : Int} {U V : Int → Prop} {m : gh_M} {Q : Int → gh_M → Prop} (hG : gm_ok G) (hD : gm_D m G) (hE : ∀ n, 0 ≤ n → n < gm_N G → (m 82 n = 0 ↔ gb E n)) (hU : ∀ r, 0 ≤ r → r < gm_R G → (m 83 r ≠ 0 ↔ U r)) (hV : ∀ n, 0 ≤ n → n < gm_N G → (m 85 n ≠ 0 ↔ V n)) (H : ∀ m2, gx [63, 89, 90, 91, 92, 93, 94, 95] m m2 → (∀ y, y ≠ 42 → m2 63 y = m 63 y) → gy_mh G (gy_P G E U V) m2 → Q 0 m2) : w_Model_findProper m Q := by
  have hN0 := hG.1
  have hN := hG.2.1
  unfold w_Model_findProper
  refine gy_layRows hG hD hE hU hV (fun ma xa oa za mia => ?_)
  have Da : gm_D ma G := by
    obtain ⟨d1, d2, d3⟩ := hD
    refine ⟨by rw [oa 26 (by decide)]; exact d1, by rw [oa 27 (by decide)]; exact d2, ?_⟩
    rw [xa 79 (by decide), xa 80 (by decide), xa 81 (by decide)]
    exact d3
  refine gy_goOver hG Da mia za (fun mb xb mhb => ?_)
  have Db := gm_D_x xb (by decide) Da
  have xab : gx [63, 89, 90, 91, 92, 93] m mb := gx_t (gx_sub xa (by decide)) (gx_sub xb (by decide))
  have oab : ∀ y, y ≠ 42 → mb 63 y = m 63 y := fun y yn => by
    rw [xb 63 (by decide)]
    exact oa y yn
  clear mia za Da xa oa xb
  obtain ⟨HS, hHS⟩ : ∃ HS, HS = gy_hs G E U V := ⟨_, rfl⟩
  rw [← hHS] at mhb
  obtain ⟨⟨q0, q1⟩, each, inj, b01, snd, cmp⟩ := mhb
  have ex : ∀ n a, 0 ≤ n → n < gm_N G → 0 ≤ a → a < mb 63 42 → (mb 92 (320 * n + a) ≠ 0 ↔ HS n (gy_mr mb a)) := fun n a n0 n1 a0 a1 => by
    refine ⟨fun y => (snd n a n0 (by omega) a0 (by omega) y).2.2, fun y => ?_⟩
    obtain ⟨b, b0, b1, b2, b3⟩ := cmp n _ n0 n1 y
    rw [inj b a b0 b1 a0 a1 b2] at b3
    exact b3
  have mrk : ∀ m2 : gh_M, gx [92, 94, 95] mb m2 → ∀ a, gy_mr m2 a = gy_mr mb a := fun m2 hx a => gy_mr_cg (by rw [hx 89 (by decide)]) (fun d _ _ => by rw [hx 90 (by decide)])
  have dok : ∀ (m2 : gh_M) (Q1 : Int → Prop) (a : Int), gx [92, 94, 95] mb m2 → 0 ≤ a → a < mb 63 42 → (∀ v, (v = 0 ∨ v = 1) → (v = 1 ↔ ∀ p, p ∈ gy_mr mb a → p < 0 → m2 94 (-1 - p) ≠ 0) → Q1 v) → w_Model_doesEnd a m2 Q1 := fun m2 Q1 a hx a0 a1 H1 => by
    have e := each a a0 a1
    refine gy_doesEnd hG a0 (by omega) (by rw [hx 89 (by decide)]; exact e.1) (by rw [mrk m2 hx]; exact e.2) (fun v v01 hv => H1 v v01 ?_)
    rw [mrk m2 hx] at hv
    exact hv
  -- what ends
  refine ⟨fun k m1 => 0 ≤ k ∧ k ≤ 8 ∧ gx [94] mb m1 ∧ ∀ x, 0 ≤ x → x < k → m1 94 x = 0, fun k _ => (20 - k).toNat, ⟨Int.le_refl _, by decide, gx_rf, fun x a b => by omega⟩, ?_⟩
  rintro k m1 ⟨k0, k1, hx1, hk⟩
  unfold f_Model_findProper_10
  refine ⟨fun c => ⟨k0, by omega, by omega, ⟨by omega, by omega, gx_u hx1 (by decide), fun x x0 x1 => ?_⟩, by (try dsimp only); omega⟩, fun c => ?_⟩
  · by_cases u : x = k
    · rw [u, gh_u_s]
    · rw [gh_u_i u]
      exact hk x x0 (by omega)
  have wf1 : ∀ k, gq_wf (gm_N G).toNat (gy_s1 G (fun n a => mb 92 (320 * n + a) ≠ 0) (gy_mr mb) (mb 63 42) k) := by
    rintro k P y ⟨n, a, n0, n1, a0, a1, _, _, hy, hP⟩
    refine ⟨fun x hx => ?_, by omega, by omega⟩
    obtain ⟨x0, x1⟩ := (hP x).mp hx
    have := (each a a0 a1).2 _ x1
    omega
  refine ⟨fun v m2 => 0 ≤ v ∧ v ≤ gm_N G ∧ gx [94] mb m2 ∧ (∀ n : Int, 0 ≤ n → n < (gm_N G).toNat → m2 94 n = 0 ∨ m2 94 n = 1) ∧ (∀ n : Int, 0 ≤ n → n < (gm_N G).toNat → m2 94 n ≠ 0 → gy_es (gm_N G) HS n) ∧ (gq_cl (gy_s1 G (fun n a => mb 92 (320 * n + a) ≠ 0) (gy_mr mb) (mb 63 42) (320 * gm_N G)) (m2 94) ∨ v ≤ gq_ct (gm_N G).toNat (m2 94)), fun v _ => (20 - v).toNat, ⟨Int.le_refl _, by omega, hx1, fun n n0 n1 => Or.inl (hk n n0 (by omega)), fun n n0 n1 y => absurd (hk n n0 (by omega)) y, Or.inr (by omega)⟩, ?_⟩
  clear hk hx1 c k0 k1
  rintro v m2 ⟨v0, v1, hx2, t01, ts, tc⟩
  have D2 := gm_D_x hx2 (by decide) Db
  unfold f_Model_findProper_31
  rw [D2.1]
  refine ⟨fun c => ?_, fun c => ?_⟩
  · refine ⟨fun k m3 => 0 ≤ k ∧ k ≤ 320 * gm_N G ∧ gx [94] mb m3 ∧ gq_ps (gm_N G).toNat (gy_s1 G (fun n a => mb 92 (320 * n + a) ≠ 0) (gy_mr mb) (mb 63 42) (320 * gm_N G)) (gy_s1 G (fun n a => mb 92 (320 * n + a) ≠ 0) (gy_mr mb) (mb 63 42) k) (gy_es (gm_N G) HS) (m2 94) (m3 94), fun k _ => (3000 - k).toNat, ⟨Int.le_refl _, by omega, hx2, gq_init t01 ts (fun P y ⟨n, a, n0, n1, a0, a1, w, _⟩ => by omega)⟩, ?_⟩
    rintro k m3 ⟨k0, k1, hx3, ps⟩
    have D3 := gm_D_x hx3 (by decide) Db
    have ek : 320 * (k / 320) + k % 320 = k := by omega
    unfold f_Model_findProper_41
    rw [D3.1, hx3 92 (by decide)]
    refine ⟨by omega, fun c2 => ⟨k0, k0, by omega, by omega, ?_⟩, fun c2 => ⟨by omega, ⟨by omega, by omega, hx3, ps.1, ps.2.2.1, ?_⟩, by (try dsimp only); omega⟩⟩
    · have s1 : ∀ P y, gy_s1 G (fun n a => mb 92 (320 * n + a) ≠ 0) (gy_mr mb) (mb 63 42) (k + 1) P y → gy_s1 G (fun n a => mb 92 (320 * n + a) ≠ 0) (gy_mr mb) (mb 63 42) k P y ∨ (mb 92 k ≠ 0 ∧ y = k / 320 ∧ ∀ x, P x ↔ 0 ≤ x ∧ -1 - x ∈ gy_mr mb (k % 320)) := by
        rintro P y ⟨n, a, n0, n1, a0, a1, w, hh, hy, hP⟩
        by_cases u : 320 * n + a < k
        · exact Or.inl ⟨n, a, n0, n1, a0, a1, u, hh, hy, hP⟩
        · have e1 : 320 * n + a = k := by omega
          have e2 : k / 320 = n := by omega
          have e3 : k % 320 = a := by omega
          rw [e2, e3]
          rw [e1] at hh
          exact Or.inr ⟨hh, hy, hP⟩
      have names : ∀ (ff : Prop), (ff ↔ ∀ p, p ∈ gy_mr mb (k % 320) → p < 0 → m3 94 (-1 - p) ≠ 0) → (ff ↔ ∀ x, (0 ≤ x ∧ -1 - x ∈ gy_mr mb (k % 320)) → m3 94 x ≠ 0) := by
        intro ff hf
        rw [hf]
        constructor
        · intro y x hx
          have := y (-1 - x) hx.2 (by omega)
          have e : -1 - (-1 - x) = x := by omega
          rw [e] at this
          exact this
        · intro y p hp p0
          refine y (-1 - p) ⟨by omega, ?_⟩
          have e : -1 - (-1 - p) = p := by omega
          rw [e]
          exact hp
      refine ⟨fun y2 y1 _ => y1 = k / 320 ∧ (y2 = 0 ∨ y2 = 1) ∧ (y2 ≠ 0 ↔ m3 94 (k / 320) ≠ 0 ∨ (mb 92 k ≠ 0 ∧ ∀ x, (0 ≤ x ∧ -1 - x ∈ gy_mr mb (k % 320)) → m3 94 x ≠ 0)), fun y2 y1 _ y => ⟨by omega, by omega, y.2.1, by omega, ⟨by omega, by omega, gx_u hx3 (by decide), ?_⟩, by (try dsimp only); omega⟩, fun y1 _ => y1 = k / 320 ∧ (m3 94 (k / 320) ≠ 0 ∨ (mb 92 k ≠ 0 ∧ ∀ x, (0 ≤ x ∧ -1 - x ∈ gy_mr mb (k % 320)) → m3 94 x ≠ 0)), fun y1 _ y => ⟨y.1, Or.inr rfl, fun _ => y.2, fun _ => by decide⟩, fun z => ⟨k0, by omega, fun y1 _ => y1 = k / 320 ∧ ¬ (m3 94 (k / 320) ≠ 0 ∨ (mb 92 k ≠ 0 ∧ ∀ x, (0 ≤ x ∧ -1 - x ∈ gy_mr mb (k % 320)) → m3 94 x ≠ 0)), fun y1 _ y => ⟨y.1, Or.inl rfl, fun w => absurd rfl w, fun w => absurd w y.2⟩, fun w => ⟨rfl, fun u => u.elim (fun u => u z) (fun u => u.1 w)⟩, fun w => ⟨k0, ?_⟩⟩, fun z => ⟨rfl, Or.inl z⟩⟩
      · rw [gm_u_rowa, y.1]
        by_cases w : mb 92 k ≠ 0
        · have sn := snd (k / 320) (k % 320) (by omega) (by omega) (by omega) (by omega) (by rw [ek]; exact w)
          refine gq_set (P0 := fun x => 0 ≤ x ∧ -1 - x ∈ gy_mr mb (k % 320)) (wf1 _) ⟨k / 320, k % 320, by omega, sn.2.1, by omega, sn.1, by omega, by (try dsimp only); rw [ek]; exact w, rfl, fun x => Iff.rfl⟩ ps (fun hX => gy_es_cl (by omega) sn.2.1 sn.2.2 (fun p hp p0 => hX (-1 - p) ⟨by omega, ?_⟩)) y.2.1 ?_ (fun P z hz => ?_)
          · have e : -1 - (-1 - p) = p := by omega
            rw [e]
            exact hp
          · rw [y.2.2]
            exact ⟨fun u => u.imp id (fun u => u.2), fun u => u.imp id (fun u => ⟨w, u⟩)⟩
          · rcases s1 P z hz with u | u
            · exact Or.inl u
            · exact Or.inr ⟨u.2.1, fun x hx => (u.2.2 x).mpr hx⟩
        · have same : gm_upd (m3 94) (k / 320) y2 = m3 94 := by
            funext j
            unfold gm_upd
            by_cases u : j = k / 320
            · rw [if_pos u, u]
              have bb := ps.1 (k / 320) (by omega) (by omega)
              have := y.2.2
              by_cases q : m3 94 (k / 320) = 0
              · rw [q]
                refine Classical.byContradiction (fun z => ?_)
                rcases this.mp z with z | z
                · exact z q
                · exact w z.1
              · have := this.mpr (Or.inl q)
                omega
            · rw [if_neg u]
          rw [same]
          exact gq_skip (wf1 _) ps (fun P z hz => (s1 P z hz).imp id (fun u => absurd u.1 w))
      · have sn := snd (k / 320) (k % 320) (by omega) (by omega) (by omega) (by omega) (by rw [ek]; exact w)
        refine dok m3 _ (k % 320) (gx_sub hx3 (by decide)) (by omega) sn.1 (fun v v01 hv => ?_)
        have nn := names _ hv
        exact ⟨fun u => ⟨rfl, fun x => x.elim (fun x => x z) (fun x => by
          have := nn.mpr x.2
          omega)⟩, fun u => ⟨rfl, Or.inr ⟨w, nn.mp (by omega)⟩⟩⟩
    · have e : k = 320 * gm_N G := by omega
      rw [e] at ps
      exact gq_round (wf1 _) ps tc
  have cl1 := gq_full (wf1 _) (by omega) tc
  have es : ∀ n, 0 ≤ n → n < gm_N G → (m2 94 n ≠ 0 ↔ gy_es (gm_N G) HS n) := fun n n0 n1 => ⟨ts n n0 (by omega), fun y => (y (fun n => 0 ≤ n ∧ n < gm_N G → m2 94 n ≠ 0) (fun n L n0 n1 h hp _ => by
    obtain ⟨a, a0, a1, a2, a3⟩ := cmp n L n0 n1 h
    refine cl1 (fun x => 0 ≤ x ∧ -1 - x ∈ gy_mr mb a) n ⟨n, a, n0, n1, a0, a1, by omega, a3, rfl, fun x => Iff.rfl⟩ (fun x hx => ?_)
    have w := hp (-1 - x) (by rw [← a2]; exact hx.2) (by omega)
    have okx := (each a a0 a1).2 _ hx.2
    have e : -1 - (-1 - x) = x := by omega
    rw [e] at w
    exact w ⟨hx.1, by omega⟩)) ⟨n0, n1⟩⟩
  have edd : ∀ a, 0 ≤ a → a < mb 63 42 → ((∀ p, p ∈ gy_mr mb a → p < 0 → m2 94 (-1 - p) ≠ 0) ↔ gy_ed (gm_N G) HS (gy_mr mb a)) := fun a a0 a1 => by
    have ok := (each a a0 a1).2
    exact ⟨fun y p hp p0 => (es _ (by omega) (by have := ok p hp; omega)).mp (y p hp p0), fun y p hp p0 => (es _ (by omega) (by have := ok p hp; omega)).mpr (y p hp p0)⟩
  clear tc cl1 t01 ts wf1 c v0 v1
  -- what is of the proper grammar
  refine ⟨fun k m3 => 0 ≤ k ∧ k ≤ 8 ∧ gx [95] m2 m3 ∧ ∀ x, 0 ≤ x → x < k → m3 95 x = if x = 0 ∧ ¬ m2 94 0 = 0 then 1 else 0, fun k _ => (20 - k).toNat, ⟨Int.le_refl _, by decide, gx_rf, fun x a b => by omega⟩, ?_⟩
  rintro k m3 ⟨k0, k1, hx3, hk⟩
  unfold f_Model_findProper_116
  rw [hx3 94 (by decide)]
  refine ⟨fun c => ⟨k0, by omega, by omega, ⟨by omega, by omega, gx_u hx3 (by decide), fun x x0 x1 => ?_⟩, by (try dsimp only); omega⟩, fun c => ?_⟩
  · by_cases u : x = k
    · rw [u, gh_u_s]
    · rw [gh_u_i u]
      exact hk x x0 (by omega)
  have wf2 : ∀ k d, gq_wf (gm_N G).toNat (gy_s2 G (fun n a => mb 92 (320 * n + a) ≠ 0) (gy_mr mb) (mb 89) (mb 90) (gy_ed (gm_N G) HS) (mb 63 42) k d) := by
    rintro k d P y ⟨n, a, e, n0, n1, a0, a1, e0, e1, _, _, _, p0, hy, hn, hP⟩
    have ok := (each a a0 a1).2 _ ((gy_mr_mem (each a a0 a1).1.1).mpr ⟨e, e0, e1, rfl⟩)
    exact ⟨fun x hx => by rw [hP x hx]; omega, by omega, by omega⟩
  refine ⟨fun v m4 => 0 ≤ v ∧ v ≤ gm_N G ∧ gx [95] m2 m4 ∧ (∀ n : Int, 0 ≤ n → n < (gm_N G).toNat → m4 95 n = 0 ∨ m4 95 n = 1) ∧ (∀ n : Int, 0 ≤ n → n < (gm_N G).toNat → m4 95 n ≠ 0 → gy_pr (gm_N G) HS n) ∧ (m2 94 0 ≠ 0 → m4 95 0 ≠ 0) ∧ (gq_cl (gy_s2 G (fun n a => mb 92 (320 * n + a) ≠ 0) (gy_mr mb) (mb 89) (mb 90) (gy_ed (gm_N G) HS) (mb 63 42) (320 * gm_N G) 0) (m4 95) ∨ v ≤ gq_ct (gm_N G).toNat (m4 95)), fun v _ => (20 - v).toNat, ⟨Int.le_refl _, by omega, hx3, fun n n0 n1 => ?_, fun n n0 n1 y => ?_, fun y => ?_, Or.inr (by omega)⟩, ?_⟩
  · rw [hk n n0 (by omega)]
    exact gh_ib01
  · rw [hk n n0 (by omega)] at y
    by_cases u : n = 0 ∧ ¬ m2 94 0 = 0
    · rw [u.1]
      exact gy_pr_0 ((es 0 (Int.le_refl _) (by omega)).mp u.2)
    · rw [if_neg u] at y
      exact absurd rfl y
  · rw [hk 0 (by omega) (by omega), if_pos ⟨rfl, y⟩]
    decide
  clear hk hx3 c k0 k1
  rintro v m4 ⟨v0, v1, hx4, t01, ts, t0, tc⟩
  have x24 : gx [94, 95] mb m4 := gx_t (gx_sub hx2 (by decide)) (gx_sub hx4 (by decide))
  unfold f_Model_findProper_154
  rw [(gm_D_x x24 (by decide) Db).1]
  refine ⟨fun c => ?_, fun c => ?_⟩
  · refine ⟨fun k m5 => 0 ≤ k ∧ k ≤ 320 * gm_N G ∧ gx [95] m2 m5 ∧ gq_ps (gm_N G).toNat (gy_s2 G (fun n a => mb 92 (320 * n + a) ≠ 0) (gy_mr mb) (mb 89) (mb 90) (gy_ed (gm_N G) HS) (mb 63 42) (320 * gm_N G) 0) (gy_s2 G (fun n a => mb 92 (320 * n + a) ≠ 0) (gy_mr mb) (mb 89) (mb 90) (gy_ed (gm_N G) HS) (mb 63 42) k 0) (gy_pr (gm_N G) HS) (m4 95) (m5 95), fun k _ => (3000 - k).toNat, ⟨Int.le_refl _, by omega, hx4, gq_init t01 ts (fun P y ⟨n, a, e, n0, n1, a0, a1, e0, e1, w, _⟩ => by omega)⟩, ?_⟩
    rintro k m5 ⟨k0, k1, hx5, ps⟩
    have x25 : gx [94, 95] mb m5 := gx_t (gx_sub hx2 (by decide)) (gx_sub hx5 (by decide))
    unfold f_Model_findProper_164
    rw [(gm_D_x x25 (by decide) Db).1]
    refine ⟨by omega, fun c2 => ?_, fun c2 => ⟨by omega, ⟨by omega, by omega, hx5, ps.1, ps.2.2.1, fun y => ps.2.1 0 (Int.le_refl _) (by omega) (t0 y), ?_⟩, by (try dsimp only); omega⟩⟩
    rotate_left
    · have e : k = 320 * gm_N G := by omega
      rw [e] at ps
      exact gq_round (wf2 _ _) ps tc
    have ek : 320 * (k / 320) + k % 320 = k := by omega
    refine ⟨fun d m6 => 0 ≤ d ∧ (d = 0 ∨ d ≤ mb 89 (k % 320)) ∧ d ≤ 4 ∧ gx [95] m2 m6 ∧ gq_ps (gm_N G).toNat (gy_s2 G (fun n a => mb 92 (320 * n + a) ≠ 0) (gy_mr mb) (mb 89) (mb 90) (gy_ed (gm_N G) HS) (mb 63 42) (320 * gm_N G) 0) (gy_s2 G (fun n a => mb 92 (320 * n + a) ≠ 0) (gy_mr mb) (mb 89) (mb 90) (gy_ed (gm_N G) HS) (mb 63 42) k d) (gy_pr (gm_N G) HS) (m4 95) (m6 95), fun d _ => (20 - d).toNat, ⟨Int.le_refl _, Or.inl rfl, by decide, hx5, ps⟩, ?_⟩
    clear ps hx5 x25
    rintro d m6 ⟨d0, d1, d4, hx6, ps⟩
    have x26 : gx [94, 95] mb m6 := gx_t (gx_sub hx2 (by decide)) (gx_sub hx6 (by decide))
    have e94 : m6 94 = m2 94 := hx6 94 (by decide)
    have sk : ∀ P y, gy_s2 G (fun n a => mb 92 (320 * n + a) ≠ 0) (gy_mr mb) (mb 89) (mb 90) (gy_ed (gm_N G) HS) (mb 63 42) (k + 1) 0 P y → gy_s2 G (fun n a => mb 92 (320 * n + a) ≠ 0) (gy_mr mb) (mb 89) (mb 90) (gy_ed (gm_N G) HS) (mb 63 42) k d P y ∨ (mb 92 k ≠ 0 ∧ d < mb 89 (k % 320) ∧ gy_ed (gm_N G) HS (gy_mr mb (k % 320)) ∧ P (k / 320)) := by
      rintro P y ⟨n, a, e, n0, n1, a0, a1, e0, e1, w, hh, hd, p0, hy, hn, hP⟩
      by_cases u : 320 * n + a < k ∨ (320 * n + a = k ∧ e < d)
      · exact Or.inl ⟨n, a, e, n0, n1, a0, a1, e0, e1, u, hh, hd, p0, hy, hn, hP⟩
      · have e4 : 320 * n + a = k := by omega
        have e2 : k / 320 = n := by omega
        have e3 : k % 320 = a := by omega
        rw [e2, e3]
        rw [e4] at hh
        exact Or.inr ⟨hh, by omega, hd, hn⟩
    unfold f_Model_findProper_178
    rw [x26 92 (by decide), x26 89 (by decide)]
    refine ⟨k0, by omega, fun m7 => gx [95] m2 m7 ∧ gq_ps (gm_N G).toNat (gy_s2 G (fun n a => mb 92 (320 * n + a) ≠ 0) (gy_mr mb) (mb 89) (mb 90) (gy_ed (gm_N G) HS) (mb 63 42) (320 * gm_N G) 0) (gy_s2 G (fun n a => mb 92 (320 * n + a) ≠ 0) (gy_mr mb) (mb 89) (mb 90) (gy_ed (gm_N G) HS) (mb 63 42) (k + 1) 0) (gy_pr (gm_N G) HS) (m4 95) (m7 95), fun m7 y => ⟨by omega, ⟨by omega, by omega, y⟩, by (try dsimp only); omega⟩, fun _ => ⟨k0, by omega, by omega, fun _ => ⟨k0, by omega, by omega⟩⟩, fun t => ⟨hx6, gq_skip (wf2 _ _) ps (fun P y hy => (sk P y hy).imp id (fun u => ?_))⟩, fun t => ⟨k0, ?_⟩⟩
    · rcases t with t | t | t
      · exact absurd t u.1
      · exact fun z => z _ u.2.2.2 t
      · exact absurd u.2.1 t
    have t1 : mb 92 k ≠ 0 := fun y => t (Or.inl y)
    have t2 : m6 95 (k / 320) ≠ 0 := fun y => t (Or.inr (Or.inl y))
    have t3 : d < mb 89 (k % 320) := Classical.byContradiction (fun y => t (Or.inr (Or.inr y)))
    have sn := snd (k / 320) (k % 320) (by omega) (by omega) (by omega) (by omega) (by rw [ek]; exact t1)
    have ea := each (k % 320) (by omega) sn.1
    refine dok m6 _ (k % 320) (gx_sub x26 (by decide)) (by omega) sn.1 (fun v v01 hv => ?_)
    rw [e94, edd _ (by omega) sn.1] at hv
    refine ⟨fun u => ⟨hx6, gq_skip (wf2 _ _) ps (fun P y hy => (sk P y hy).imp id (fun w => ?_))⟩, fun u => ⟨k0, by omega, by omega, by omega, by omega, ?_⟩⟩
    · have := hv.mpr w.2.2.1
      omega
    have hed := hv.mp (by omega)
    have mem := (gy_mr_mem ea.1.1).mpr ⟨d, d0, t3, rfl⟩
    have okp := ea.2 _ mem
    rw [x26 90 (by decide)]
    intro v4 hv4
    rw [hv4]
    clear hv4 v4
    have s2 : ∀ P y, gy_s2 G (fun n a => mb 92 (320 * n + a) ≠ 0) (gy_mr mb) (mb 89) (mb 90) (gy_ed (gm_N G) HS) (mb 63 42) k (d + 1) P y → gy_s2 G (fun n a => mb 92 (320 * n + a) ≠ 0) (gy_mr mb) (mb 89) (mb 90) (gy_ed (gm_N G) HS) (mb 63 42) k d P y ∨ (mb 90 (4 * (k % 320) + d) < 0 ∧ y = -1 - mb 90 (4 * (k % 320) + d) ∧ P (k / 320) ∧ ∀ x, P x → x = k / 320) := by
      rintro P y ⟨n, a, e, n0, n1, a0, a1, e0, e1, w, hh, hd, p0, hy, hn, hP⟩
      by_cases u : 320 * n + a < k ∨ (320 * n + a = k ∧ e < d)
      · exact Or.inl ⟨n, a, e, n0, n1, a0, a1, e0, e1, u, hh, hd, p0, hy, hn, hP⟩
      · have e2 : k / 320 = n := by omega
        have e3 : k % 320 = a := by omega
        have e4 : e = d := by omega
        rw [e2, e3, ← e4]
        exact Or.inr ⟨p0, hy, hn, hP⟩
    refine ⟨fun m7 => gx [95] m2 m7 ∧ gq_ps (gm_N G).toNat (gy_s2 G (fun n a => mb 92 (320 * n + a) ≠ 0) (gy_mr mb) (mb 89) (mb 90) (gy_ed (gm_N G) HS) (mb 63 42) (320 * gm_N G) 0) (gy_s2 G (fun n a => mb 92 (320 * n + a) ≠ 0) (gy_mr mb) (mb 89) (mb 90) (gy_ed (gm_N G) HS) (mb 63 42) k (d + 1)) (gy_pr (gm_N G) HS) (m4 95) (m7 95), fun m7 y => ⟨by omega, ⟨by omega, Or.inr (by omega), by omega, y⟩, by (try dsimp only); omega⟩, fun w => ⟨by omega, by omega, by omega, gx_u hx6 (by decide), ?_⟩, fun w => ⟨hx6, gq_skip (wf2 _ _) ps (fun P y hy => (s2 P y hy).imp id (fun u => absurd u.1 w))⟩⟩
    rw [gm_u_rowa]
    refine gq_set (P0 := fun x => x = k / 320) (wf2 _ _) ⟨k / 320, k % 320, d, by omega, sn.2.1, by omega, sn.1, d0, t3, by omega, by (try dsimp only); rw [ek]; exact t1, hed, w, rfl, rfl, fun x => id⟩ ps (fun hX => gy_pr_s (by omega) sn.2.1 sn.2.2 hed (hX _ rfl) mem w) (Or.inr rfl) ⟨fun _ => Or.inr (fun x hx => by rw [hx]; exact t2), fun _ => by decide⟩ (fun P z hz => ?_)
    rcases s2 P z hz with u | u
    · exact Or.inl u
    · exact Or.inr ⟨u.2.1, fun x hx => by rw [hx]; exact u.2.2.1⟩
  have cl2 := gq_full (wf2 _ _) (by omega) tc
  have pr : ∀ n, 0 ≤ n → n < gm_N G → (m4 95 n ≠ 0 ↔ gy_pr (gm_N G) HS n) := fun n n0 n1 => ⟨ts n n0 (by omega), fun y => (y (fun n => 0 ≤ n ∧ n < gm_N G → m4 95 n ≠ 0) (fun z _ => t0 ((es 0 (Int.le_refl _) (by omega)).mpr z)) (fun n L p n0 n1 h hd hz hp p0 _ => by
    obtain ⟨a, a0, a1, a2, a3⟩ := cmp n L n0 n1 h
    rw [← a2] at hp hd
    obtain ⟨e, e0, e1, e2⟩ := (gy_mr_mem (each a a0 a1).1.1).mp hp
    refine cl2 (fun x => x = n) (-1 - p) ⟨n, a, e, n0, n1, a0, a1, e0, e1, by omega, a3, hd, by omega, by rw [e2], rfl, fun x => id⟩ (fun x hx => ?_)
    rw [hx]
    exact hz ⟨n0, n1⟩)) ⟨n0, n1⟩⟩
  -- the rows that stay
  clear tc cl2 wf2 t01 ts t0 c v0 v1
  have P2 : ∀ n a, 0 ≤ n → n < gm_N G → 0 ≤ a → a < mb 63 42 → (gy_P G E U V n (gy_mr mb a) ↔ mb 92 (320 * n + a) ≠ 0 ∧ m4 95 n ≠ 0 ∧ ∀ p, p ∈ gy_mr mb a → p < 0 → m2 94 (-1 - p) ≠ 0) := fun n a n0 n1 a0 a1 => by
    rw [ex n a n0 n1 a0 a1, pr n n0 n1, edd a a0 a1, hHS]
    exact Iff.rfl
  refine ⟨fun k m5 => 0 ≤ k ∧ k ≤ 2560 ∧ gx [92] m4 m5 ∧ (∀ x, k ≤ x → m5 92 x = mb 92 x) ∧ ∀ x, 0 ≤ x → x < k → (m5 92 x = 0 ∨ m5 92 x = 1) ∧ (m5 92 x ≠ 0 ↔ x % 320 < mb 63 42 ∧ x / 320 < gm_N G ∧ gy_P G E U V (x / 320) (gy_mr mb (x % 320))), fun k _ => (3000 - k).toNat, ⟨Int.le_refl _, by decide, gx_rf, fun x _ => by rw [x24 92 (by decide)], fun x a b => by omega⟩, ?_⟩
  rintro k m5 ⟨k0, k1, hx5, hh, hk⟩
  have x25 : gx [92, 94, 95] mb m5 := gx_t (gx_sub x24 (by decide)) (gx_sub hx5 (by decide))
  have e94 : m5 94 = m2 94 := by
    rw [hx5 94 (by decide), hx4 94 (by decide)]
  have e95 : m5 95 = m4 95 := hx5 95 (by decide)
  have ek : 320 * (k / 320) + k % 320 = k := by omega
  unfold f_Model_findProper_277
  rw [hh k (Int.le_refl _), e95]
  refine ⟨fun c => ⟨k0, by omega, fun y2 y1 _ => y1 = k ∧ (y2 = 0 ∨ y2 = 1) ∧ (y2 ≠ 0 ↔ k % 320 < mb 63 42 ∧ k / 320 < gm_N G ∧ gy_P G E U V (k / 320) (gy_mr mb (k % 320))), fun y2 y1 _ y => ⟨by omega, by omega, y.2.1, by omega, ⟨by omega, by omega, gx_u hx5 (by decide), fun x x0 => ?_, fun x x0 x1 => ?_⟩, by (try dsimp only); omega⟩, fun y1 _ => y1 = k ∧ ¬ (k % 320 < mb 63 42 ∧ k / 320 < gm_N G ∧ gy_P G E U V (k / 320) (gy_mr mb (k % 320))), fun y1 _ y => ⟨y.1, Or.inl rfl, fun w => absurd rfl w, fun w => absurd w y.2⟩, fun _ => ⟨k0, by omega, by omega⟩, fun t => ⟨rfl, fun y => ?_⟩, fun t => ⟨k0, ?_⟩⟩, fun c => ?_⟩
  · rw [y.1, gh_u_i (by omega)]
    exact hh x (by omega)
  · rw [y.1]
    by_cases u : x = k
    · rw [u, gh_u_s]
      exact y.2
    · rw [gh_u_i u]
      exact hk x x0 (by omega)
  · have z := (P2 _ _ (by omega) y.2.1 (by omega) y.1).mp y.2.2
    rw [ek] at z
    rcases t with t | t
    · exact z.1 t
    · exact z.2.1 t
  · have t1 : mb 92 k ≠ 0 := fun y => t (Or.inl y)
    have t2 : m4 95 (k / 320) ≠ 0 := fun y => t (Or.inr y)
    have sn := snd (k / 320) (k % 320) (by omega) (by omega) (by omega) (by omega) (by rw [ek]; exact t1)
    have p2 := P2 _ _ (by omega) sn.2.1 (by omega) sn.1
    rw [ek] at p2
    refine dok m5 _ (k % 320) x25 (by omega) sn.1 (fun v v01 hv => ?_)
    rw [e94] at hv
    refine ⟨fun u => ⟨rfl, fun y => ?_⟩, fun u => ⟨rfl, Or.inr rfl, fun _ => ⟨sn.1, sn.2.1, p2.mpr ⟨t1, t2, hv.mp (by omega)⟩⟩, fun _ => by decide⟩⟩
    have := hv.mpr (p2.mp y.2.2).2.2
    omega
  · refine H m5 (gx_t (gx_sub xab (by decide)) (gx_sub x25 (by decide))) (fun y yn => by rw [x25 63 (by decide)]; exact oab y yn) ?_
    unfold gy_mh
    rw [x25 63 (by decide), x25 89 (by decide)]
    refine ⟨⟨q0, q1⟩, fun a a0 a1 => by rw [mrk m5 x25]; exact each a a0 a1, fun a b a0 a1 b0 b1 e => by rw [mrk m5 x25, mrk m5 x25] at e; exact inj a b a0 a1 b0 b1 e, fun x x0 x1 => (hk x x0 (by omega)).1, fun n a n0 n1 a0 a1 y => ?_, fun n L n0 n1 y => ?_⟩
    · have z := (hk (320 * n + a) (by omega) (by omega)).2.mp y
      have e1 : (320 * n + a) % 320 = a := by omega
      have e2 : (320 * n + a) / 320 = n := by omega
      rw [e1, e2] at z
      rw [mrk m5 x25]
      exact z
    · obtain ⟨a, a0, a1, a2, a3⟩ := cmp n L n0 n1 (by rw [hHS]; exact y.1)
      refine ⟨a, a0, a1, by rw [mrk m5 x25]; exact a2, (hk (320 * n + a) (by omega) (by omega)).2.mpr ?_⟩
      have e1 : (320 * n + a) % 320 = a := by omega
      have e2 : (320 * n + a) / 320 = n := by omega
      rw [e1, e2, a2]
      exact ⟨a1, n1, y⟩
theorem gsum_mul {f : Int → Int} {c : Int} : ∀ n : Nat, gsum (fun x => f x * c) n = gsum f n * c
  | 0 => by
    show (0 : Int) = 0 * c
    rw [Int.zero_mul]
  | n + 1 => by
    have ih := gsum_mul (f := f) (c := c) n
    show gsum (fun x => f x * c) n + f n * c = (gsum f n + f n) * c
    rw [ih, Int.add_mul]
theorem gy_mproper {G : gm_G} {E : Int} {U V : Int → Prop} {m : gh_M} {Q : Int → Prop} {v : Int} (hG : gm_ok G) (hD : gm_D m G) (h24 : m 63 24 ≠ 0) (v0 : 0 ≤ v) (v2 : v ≤ 2) (mh : gy_mh G (gy_P G E U V) m) (H : ∀ a b c, gy_res G E U V a b c → Q (if v = 0 then a else if v = 1 then b else c)) : w_Model_proper v m Q := by
  have hN0 := hG.1
  have hN := hG.2.1
  obtain ⟨⟨q0, q1⟩, each, inj, b01, snd, cmp⟩ := mh
  have ib : ∀ n a, 0 ≤ n → n < gm_N G → 0 ≤ a → a < m 63 42 → (m 92 (320 * n + a) ≠ 0 ↔ gy_P G E U V n (gy_mr m a)) := fun n a n0 n1 a0 a1 => by
    refine ⟨fun y => (snd n a n0 (by omega) a0 (by omega) y).2.2, fun y => ?_⟩
    obtain ⟨b, b0, b1, b2, b3⟩ := cmp n _ n0 n1 y
    rw [inj b a b0 b1 a0 a1 b2] at b3
    exact b3
  have i01 : ∀ n a, 0 ≤ gt_ib (gy_P G E U V n (gy_mr m a)) ∧ gt_ib (gy_P G E U V n (gy_mr m a)) ≤ 1 := fun n a => by
    have := gt_ib_01 (P := gy_P G E U V n (gy_mr m a))
    omega
  have lenE : ∀ a, 0 ≤ a → a < m 63 42 → ((gy_mr m a).length : Int) = m 89 a := fun a a0 a1 => by
    unfold gy_mr
    rw [gy_pre_len]
    have := (each a a0 a1).1.1
    omega
  have iL : ∀ n a, 0 ≤ a → a < m 63 42 → 0 ≤ gt_ib (gy_P G E U V n (gy_mr m a)) * (gy_mr m a).length ∧ gt_ib (gy_P G E U V n (gy_mr m a)) * (gy_mr m a).length ≤ 4 := fun n a a0 a1 => by
    have e := lenE a a0 a1
    have s := (each a a0 a1).1
    rcases gt_ib_01 (P := gy_P G E U V n (gy_mr m a)) with w | w <;> rw [w] <;> omega
  have A1 : ∀ (n : Int) (k : Nat), (k : Int) ≤ m 63 42 → 0 ≤ gsum (fun a => gt_ib (gy_P G E U V n (gy_mr m a))) k ∧ gsum (fun a => gt_ib (gy_P G E U V n (gy_mr m a))) k ≤ k := fun n k hk => by
    have a := gsum_nn (f := fun a => gt_ib (gy_P G E U V n (gy_mr m a))) k (fun x _ _ => (i01 n x).1)
    have b := gsum_le (f := fun a => gt_ib (gy_P G E U V n (gy_mr m a))) (B := 1) k (fun x _ _ => (i01 n x).2)
    omega
  have A2 : ∀ (n : Int) (k : Nat), (k : Int) ≤ m 63 42 → 0 ≤ gsum (fun a => gt_ib (gy_P G E U V n (gy_mr m a)) * (gy_mr m a).length) k ∧ gsum (fun a => gt_ib (gy_P G E U V n (gy_mr m a)) * (gy_mr m a).length) k ≤ 4 * k := fun n k hk => by
    have a := gsum_nn (f := fun a => gt_ib (gy_P G E U V n (gy_mr m a)) * (gy_mr m a).length) k (fun x x0 x1 => (iL n x x0 (by omega)).1)
    have b := gsum_le (f := fun a => gt_ib (gy_P G E U V n (gy_mr m a)) * (gy_mr m a).length) (B := 4) k (fun x x0 x1 => (iL n x x0 (by omega)).2)
    omega
  unfold w_Model_proper
  refine ⟨fun _ => ⟨fun y => absurd y h24, fun _ => ?_⟩, fun y => absurd ⟨by omega, v2⟩ y⟩
  refine ⟨fun p q w n => 0 ≤ n ∧ n ≤ gm_N G ∧ p = gsum (fun n => gsum (fun a => gt_ib (gy_P G E U V n (gy_mr m a))) (m 63 42).toNat) n.toNat ∧ q = gsum (fun n => gsum (fun a => gt_ib (gy_P G E U V n (gy_mr m a)) * (gy_mr m a).length) (m 63 42).toNat) n.toNat ∧ w = gsum (fun n => gt_ib (∃ L, gy_P G E U V n L)) n.toNat, fun _ _ _ n => (20 - n).toNat, ⟨Int.le_refl _, by omega, rfl, rfl, rfl⟩, ?_⟩
  rintro p q w n ⟨n0, n1, hp, hq, hw⟩
  have en : ((n.toNat : Nat) : Int) = n := by omega
  have B1 : 0 ≤ p ∧ p ≤ 2560 := by
    have a := gsum_nn (f := fun n => gsum (fun a => gt_ib (gy_P G E U V n (gy_mr m a))) (m 63 42).toNat) n.toNat (fun x _ _ => (A1 x _ (by omega)).1)
    have b := gsum_le (f := fun n => gsum (fun a => gt_ib (gy_P G E U V n (gy_mr m a))) (m 63 42).toNat) (B := 320) n.toNat (fun x _ _ => by
      have := (A1 x (m 63 42).toNat (by omega)).2
      (try dsimp only)
      omega)
    omega
  have B2 : 0 ≤ q ∧ q ≤ 10240 := by
    have a := gsum_nn (f := fun n => gsum (fun a => gt_ib (gy_P G E U V n (gy_mr m a)) * (gy_mr m a).length) (m 63 42).toNat) n.toNat (fun x _ _ => (A2 x _ (by omega)).1)
    have b := gsum_le (f := fun n => gsum (fun a => gt_ib (gy_P G E U V n (gy_mr m a)) * (gy_mr m a).length) (m 63 42).toNat) (B := 1280) n.toNat (fun x _ _ => by
      have := (A2 x (m 63 42).toNat (by omega)).2
      (try dsimp only)
      omega)
    omega
  have B3 : 0 ≤ w ∧ w ≤ 8 := by
    have a := gsum_nn (f := fun n => gt_ib (∃ L, gy_P G E U V n L)) n.toNat (fun x _ _ => by
      have := gt_ib_01 (P := ∃ L, gy_P G E U V x L)
      (try dsimp only)
      omega)
    have b := gsum_le (f := fun n => gt_ib (∃ L, gy_P G E U V n L)) (B := 1) n.toNat (fun x _ _ => by
      have := gt_ib_01 (P := ∃ L, gy_P G E U V x L)
      (try dsimp only)
      omega)
    omega
  unfold f_Model_proper_34
  rw [hD.1]
  refine ⟨fun c => ?_, fun c => ?_⟩
  · refine ⟨fun q' s a => 0 ≤ a ∧ a ≤ m 63 42 ∧ s = gsum (fun a => gt_ib (gy_P G E U V n (gy_mr m a))) a.toNat ∧ q' = q + gsum (fun a => gt_ib (gy_P G E U V n (gy_mr m a)) * (gy_mr m a).length) a.toNat, fun _ _ a => (400 - a).toNat, ⟨Int.le_refl _, q0, rfl, by
      show q = q + 0
      omega⟩, ?_⟩
    rintro q' s a ⟨a0, a1, hs, hq'⟩
    have ea : ((a.toNat : Nat) : Int) = a := by omega
    have C1 := A1 n a.toNat (by omega)
    have C2 := A2 n a.toNat (by omega)
    unfold f_Model_proper_49
    refine ⟨fun c2 => ⟨by omega, by omega, by omega, by omega, ?_⟩, fun c2 => ⟨by omega, ?_⟩⟩
    · have ib' := ib n a n0 c a0 c2
      have sz := (each a a0 c2).1
      have le := lenE a a0 c2
      have e1 : (if ¬ m 92 (320 * n + a) = 0 then (1 : Int) else 0) = gt_ib (gy_P G E U V n (gy_mr m a)) := by
        by_cases u : m 92 (320 * n + a) = 0
        · rw [if_neg (fun y => y u), gt_ib_f (fun y => ib'.mpr y u)]
        · rw [if_pos u, gt_ib_t (ib'.mp u)]
      have e2 : (if m 92 (320 * n + a) = 0 then 0 else m 89 a) = gt_ib (gy_P G E U V n (gy_mr m a)) * (gy_mr m a).length := by
        rw [le]
        by_cases u : m 92 (320 * n + a) = 0
        · rw [if_pos u, gt_ib_f (fun y => ib'.mpr y u), Int.zero_mul]
        · rw [if_neg u, gt_ib_t (ib'.mp u), Int.one_mul]
      have D1 := i01 n a
      have D2 := iL n a a0 c2
      rw [e1, e2]
      refine ⟨by omega, ?_⟩
      intro s2 hs2
      refine ⟨by omega, by omega, by omega, by omega, fun _ => ⟨a0, by omega⟩, by omega, ?_⟩
      intro q2 hq2
      have ed : (a + 1).toNat = a.toNat + 1 := by omega
      refine ⟨by omega, ⟨by omega, by omega, ?_, ?_⟩, by (try dsimp only); omega⟩
      · rw [hs2, hs, ed]
        show _ = gsum _ a.toNat + gt_ib (gy_P G E U V n (gy_mr m ((a.toNat : Nat) : Int)))
        rw [ea]
      · rw [hq2, hq', ed]
        show _ = q + (gsum _ a.toNat + gt_ib (gy_P G E U V n (gy_mr m ((a.toNat : Nat) : Int))) * (gy_mr m ((a.toNat : Nat) : Int)).length)
        rw [ea]
        omega
    · have eq : a = m 63 42 := by omega
      rw [eq] at hs hq' C1 C2
      intro p2 hp2
      refine ⟨by
        by_cases u : s ≤ 0
        · rw [if_neg (fun y => y u)]
          omega
        · rw [if_pos u]
          omega, ?_⟩
      intro w2 hw2
      have ed : (n + 1).toNat = n.toNat + 1 := by omega
      refine ⟨by omega, ⟨by omega, by omega, ?_, ?_, ?_⟩, by (try dsimp only); omega⟩
      · rw [hp2, hp, hs, ed]
        show _ = gsum _ n.toNat + gsum (fun a => gt_ib (gy_P G E U V ((n.toNat : Nat) : Int) (gy_mr m a))) (m 63 42).toNat
        rw [en]
      · rw [hq', hq, ed]
        show _ = gsum _ n.toNat + gsum (fun a => gt_ib (gy_P G E U V ((n.toNat : Nat) : Int) (gy_mr m a)) * (gy_mr m a).length) (m 63 42).toNat
        rw [en]
      · rw [hw2, hw, ed]
        show _ = gsum _ n.toNat + gt_ib (∃ L, gy_P G E U V ((n.toNat : Nat) : Int) L)
        rw [en]
        congr 1
        by_cases u : ∃ L, gy_P G E U V n L
        · rw [gt_ib_t u, if_pos (fun z => ?_)]
          obtain ⟨L, y⟩ := u
          obtain ⟨b, b0, b1, b2, b3⟩ := cmp n L n0 c y
          have ge := gsum_ge (f := fun a => gt_ib (gy_P G E U V n (gy_mr m a))) (m 63 42).toNat (fun x _ _ => (i01 n x).1) b b0 (by omega)
          have e1 : gt_ib (gy_P G E U V n (gy_mr m b)) = 1 := gt_ib_t (by rw [b2]; exact y)
          (try dsimp only at ge)
          omega
        · have z0 : s = 0 := hs.trans (gsum_z _ (fun x _ _ => gt_ib_f (fun y => u ⟨_, y⟩)))
          rw [gt_ib_f u, if_neg (fun z => z (by omega))]
  · have eN : n = gm_N G := by omega
    rw [eN] at hp hq hw
    refine H p w q ⟨⟨(m 63 42).toNat, gy_mr m, fun a b a0 a1 b0 b1 e => inj a b a0 (by omega) b0 (by omega) e, fun L y => ?_, ?_⟩, hw, ⟨(m 63 42).toNat, gy_mr m, fun a b a0 a1 b0 b1 e => inj a b a0 (by omega) b0 (by omega) e, fun L y => ?_, ?_⟩⟩
    · obtain ⟨i, i0, i1, z⟩ := gy_f_x y
      obtain ⟨b, b0, b1, b2, b3⟩ := cmp i L i0 i1 z
      exact ⟨b, b0, by omega, b2⟩
    · rw [hp, gsum_com]
      rfl
    · obtain ⟨i, i0, i1, z⟩ := gy_f_x (fun u => y (by
        show gy_f G E U V L * _ = 0
        rw [u, Int.zero_mul]))
      obtain ⟨b, b0, b1, b2, b3⟩ := cmp i L i0 i1 z
      exact ⟨b, b0, by omega, b2⟩
    · rw [hq, gsum_com]
      exact gsum_cg _ (fun a _ _ => gsum_mul _)
