/-! THE PROPER GRAMMAR: it has the same texts but the empty one -/
def gy_mk (z : Int) (t : Int → Int) (M : Int → Int → Int → Prop) : List Int → Int → Int → Prop
  | [], i, j => i = j
  | p :: L, i, j => ∃ q, gy_mk z t M L i q ∧ q < j ∧ ((p < 0 ∧ M (-1 - p) q j) ∨ (0 < p ∧ j = q + 1 ∧ q < z ∧ gb p (t q)))
theorem gy_mk_mono {z : Int} {t : Int → Int} {M M2 : Int → Int → Int → Prop} (h : ∀ n i j, M n i j → M2 n i j) : ∀ (L : List Int) (i j : Int), gy_mk z t M L i j → gy_mk z t M2 L i j
  | [], _, _, w => w
  | p :: L, i, j, ⟨q, a, b, c⟩ => ⟨q, gy_mk_mono h L i q a, b, c.imp (fun y => ⟨y.1, h _ _ _ y.2⟩) id⟩
theorem gy_mk_rng {z : Int} {t : Int → Int} {M : Int → Int → Int → Prop} (h : ∀ n i j, M n i j → j ≤ z) : ∀ (L : List Int) (i j : Int), gy_mk z t M L i j → i ≤ j ∧ (i ≤ z → j ≤ z) ∧ (L ≠ [] → i < j)
  | [], i, j, w => by
    have e : i = j := w
    exact ⟨by omega, by omega, fun y => absurd rfl y⟩
  | p :: L, i, j, ⟨q, a, b, c⟩ => by
    have ih := gy_mk_rng h L i q a
    refine ⟨by omega, fun _ => ?_, fun _ => by omega⟩
    rcases c with ⟨_, c⟩ | ⟨_, c1, c2, _⟩
    · exact h _ _ _ c
    · omega
/-- what the names make, of at least one letter, by their rows in the proper grammar -/
def gy_Q (N z : Int) (t : Int → Int) (HS : Int → List Int → Prop) (n i j : Int) : Prop := ∀ Z : Int → Int → Int → Prop, (∀ n L i j, 0 ≤ n → n < N → HS n L → 0 ≤ i → i ≤ z → gy_mk z t Z L i j → Z n i j) → Z n i j
theorem gy_Q_cl {N z : Int} {t : Int → Int} {HS : Int → List Int → Prop} {n i j : Int} {L : List Int} (n0 : 0 ≤ n) (n1 : n < N) (h : HS n L) (i0 : 0 ≤ i) (iz : i ≤ z) (w : gy_mk z t (gy_Q N z t HS) L i j) : gy_Q N z t HS n i j := fun Z hZ => hZ n L i j n0 n1 h i0 iz (gy_mk_mono (fun _ _ _ y => y Z hZ) L i j w)
theorem gy_Q_inv {N z : Int} {t : Int → Int} {HS : Int → List Int → Prop} {n i j : Int} (h : gy_Q N z t HS n i j) : ∃ L, 0 ≤ n ∧ n < N ∧ HS n L ∧ 0 ≤ i ∧ i ≤ z ∧ gy_mk z t (gy_Q N z t HS) L i j := by
  refine h (fun n i j => ∃ L, 0 ≤ n ∧ n < N ∧ HS n L ∧ 0 ≤ i ∧ i ≤ z ∧ gy_mk z t (gy_Q N z t HS) L i j) (fun n L i j n0 n1 hh i0 iz w => ⟨L, n0, n1, hh, i0, iz, ?_⟩)
  exact gy_mk_mono (fun n i j ⟨L2, a, b, c, d, e, f⟩ => gy_Q_cl a b c d e f) L i j w
theorem gy_Q_rng {N z : Int} {t : Int → Int} {HS : Int → List Int → Prop} (hs : ∀ n L, HS n L → L ≠ []) {n i j : Int} (h : gy_Q N z t HS n i j) : 0 ≤ n ∧ n < N ∧ 0 ≤ i ∧ i < j ∧ j ≤ z := by
  refine h (fun n i j => 0 ≤ n ∧ n < N ∧ 0 ≤ i ∧ i < j ∧ j ≤ z) (fun n L i j n0 n1 hh i0 iz w => ?_)
  have r := gy_mk_rng (fun n i j y => y.2.2.2.2) L i j w
  exact ⟨n0, n1, i0, r.2.2 (hs n L hh), r.2.1 iz⟩
theorem gy_mk_all {z : Int} {t : Int → Int} {M : Int → Int → Int → Prop} {X : Int → Prop} (h : ∀ n i j, M n i j → X n) : ∀ (L : List Int) (i j : Int), gy_mk z t M L i j → ∀ p, p ∈ L → p < 0 → X (-1 - p)
  | [], _, _, _, p, hp, _ => absurd hp List.not_mem_nil
  | p :: L, i, j, ⟨q, a, b, c⟩, p2, hp, p0 => by
    rcases List.mem_cons.mp hp with e | hp
    · rw [e] at p0 ⊢
      rcases c with c | c
      · exact h _ _ _ c.2
      · omega
    · exact gy_mk_all h L i q a p2 hp p0
theorem gy_Q_es {N z : Int} {t : Int → Int} {HS : Int → List Int → Prop} {n i j : Int} (h : gy_Q N z t HS n i j) : gy_es N HS n :=
  h (fun n _ _ => gy_es N HS n) (fun _ L i j n0 n1 hh _ _ w => gy_es_cl n0 n1 hh (gy_mk_all (M := fun n _ _ => gy_es N HS n) (X := gy_es N HS) (fun _ _ _ y => y) L i j w))
/-- what is known of empty names, useful rules and useful names -/
def gy_fc (G : gm_G) (E : Int) (U V : Int → Prop) (z : Int) (t : Int → Int) : Prop := (gm_Ecl G E ∧ gm_Eso G E) ∧ (∀ r i j, 0 ≤ r → r < gm_R G → 0 ≤ i → i ≤ z → gt_row G z t (gt_M G z t) r (gm_s G r) i j → U r) ∧ (∀ r d, 0 ≤ r → r < gm_R G → 0 ≤ d → d < gm_s G r → U r → V (gm_o G r) → gm_n G r d ≠ -1 → V (gm_n G r d)) ∧ ∀ i j, gt_M G z t 0 i j → V 0
theorem gy_fc_of {G : gm_G} {z : Int} {t : Int → Int} {m : gh_M} (hG : gm_ok G) (z8 : z ≤ 8) (hf : gm_fct G m) : gy_fc G (m 20 1) (gb (m 20 5)) (gb (m 20 4)) z t := by
  have hN0 := hG.1
  obtain ⟨f1, f2, f3, f4, f5, f6⟩ := hf
  refine ⟨⟨f1.2.1, f1.2.2⟩, fun r i j r0 r1 i0 iz w => ?_, fun r d r0 r1 d0 d1 u v hn => ?_, fun i j w => ?_⟩
  · obtain ⟨p1, p2, p3, p4, p5⟩ := hG.2.2.2.2.1 r r0 r1
    have rg := gt_row_M hG iz w
    have e : (((gm_s G r).toNat : Nat) : Int) = gm_s G r := by omega
    have le := gt_row_least hG f2.1 f2.2.1 r0 r1 (gm_s G r).toNat j (by omega) w
    rw [e, gm_ls_E (Int.le_refl _)] at le
    rw [f4.2 r r0]
    refine ⟨r1, ?_⟩
    unfold gm_lr
    omega
  · by_cases c : gb (m 20 2) 0
    · exact (f6.2.2 c).1.2 r r0 r1 u v d d0 d1 hn
    · rw [f6.2.1 c] at v
      exact absurd v (gb_0 _)
  · have rg := gt_M_rng hG w
    have le := gt_M_least hG f2.1 f2.2.1 w
    have c : gb (m 20 2) 0 := (f3.2 0 (Int.le_refl _) (by omega)).mpr (by omega)
    exact (f6.2.2 c).1.1
/-- an empty name makes no letters anywhere -/
theorem gy_EM {G : gm_G} (hG : gm_ok G) {z : Int} {t : Int → Int} {E : Int} (e2 : gm_Eso G E) {n p : Int} (n0 : 0 ≤ n) (n1 : n < gm_N G) (p0 : 0 ≤ p) (pz : p ≤ z) (h : gb E n) : gt_M G z t n p p := by
  have hN := hG.2.1
  obtain ⟨Z, hZ, hz⟩ := gb_ex (fun n => gt_M G z t n p p) (gm_N G).toNat (by omega)
  refine (hz n n0 (by omega)).mp (e2 Z (fun r r0 r1 w => ?_) n n0 h)
  obtain ⟨p1, p2, p3, p4, p5⟩ := hG.2.2.2.2.1 r r0 r1
  refine (hz _ p1 (by omega)).mpr (gt_M_cl r p p r0 r1 p0 pz ?_)
  have st : ∀ c : Nat, (c : Int) ≤ gm_s G r → gt_rw (gt_pm G z t (gt_M G z t) r) c p p := by
    intro c
    induction c with
    | zero => exact fun _ => rfl
    | succ c ih =>
      intro hc
      obtain ⟨w1, w2⟩ := w c (by omega) (by omega) (by omega)
      have nn := gm_n_rng hG r0 r1 (d := c) (by omega) (by omega)
      exact ⟨p, ih (by omega), Or.inr ⟨w1, (hz _ (by omega) (by omega)).mp w2⟩⟩
  exact st (gm_s G r).toNat (by omega)
theorem gy_lf_M {G : gm_G} (hG : gm_ok G) {E : Int} {U V : Int → Prop} {z : Int} {t : Int → Int} (e2 : gm_Eso G E) {n i j : Int} {L : List Int} (i0 : 0 ≤ i) (iz : i ≤ z) (h : gy_lf G E U V n L) (w : gy_mk z t (gt_M G z t) L i j) : gt_M G z t n i j := by
  obtain ⟨r, v, r0, r1, ro, _, _, v0, v1, can, hL, _⟩ := h
  obtain ⟨p1, p2, p3, p4, p5⟩ := hG.2.2.2.2.1 r r0 r1
  have st : ∀ (c : Nat) (p : Int), (c : Int) ≤ gm_s G r → gy_mk z t (gt_M G z t) (gy_sel G r (gb v) c) i p → gt_rw (gt_pm G z t (gt_M G z t) r) c i p := by
    intro c
    induction c with
    | zero => exact fun p _ y => y
    | succ c ih =>
      intro p hc y
      have pn := gm_p_n hG r0 r1 (d := c) (by omega) (by omega)
      by_cases b : gb v c
      · rw [gy_sel_t b] at y
        obtain ⟨q, a1, a2, a3⟩ := y
        refine ⟨q, ih q (by omega) a1, ?_⟩
        rcases a3 with ⟨b1, b2⟩ | ⟨b1, b2, b3, b4⟩
        · refine Or.inr ⟨by omega, ?_⟩
          have e : gm_n G r c = -1 - gm_p G r c := by omega
          rw [e]
          exact b2
        · exact Or.inl ⟨by omega, b2, b3, b4⟩
      · rw [gy_sel_f b] at y
        have rg := gy_mk_rng (fun n i j y => (gt_M_rng hG y).2.2.2.2) _ i p y
        have nn := gm_n_rng hG r0 r1 (d := c) (by omega) (by omega)
        rcases can c (by omega) (by omega) with u | ⟨u1, u2⟩
        · exact absurd u b
        · exact ⟨p, ih p (by omega) y, Or.inr ⟨u1, gy_EM hG e2 (by omega) (by omega) (by omega) (rg.2.1 iz) u2⟩⟩
  rw [← ro]
  rw [hL] at w
  exact gt_M_cl r i j r0 r1 i0 iz (st (gm_s G r).toNat j (by omega) w)
theorem gy_hs_ne {G : gm_G} {E : Int} {U V : Int → Prop} {n : Int} {L : List Int} (h : gy_hs G E U V n L) : L ≠ [] := by
  obtain ⟨_, i, _, _, r, w, a1, a2, a3, a4, a5, a6, a7, a8, a9, a10⟩ := h
  exact a10
/-- what the proper grammar makes the grammar makes -/
theorem gy_Q_M {G : gm_G} (hG : gm_ok G) {E : Int} {U V : Int → Prop} {z : Int} {t : Int → Int} (e2 : gm_Eso G E) {n i j : Int} (h : gy_Q (gm_N G) z t (gy_hs G E U V) n i j) : gt_M G z t n i j := by
  refine h (gt_M G z t) (fun n L i j n0 n1 hh i0 iz w => ?_)
  have rg := gy_mk_rng (fun n i j y => (gt_M_rng hG y).2.2.2.2) L i j w
  have ij := rg.2.2 (gy_hs_ne hh)
  obtain ⟨nu, k, kr, t1, lf⟩ := hh
  have mk := gy_lf_M hG e2 i0 iz lf w
  rcases t1 with t1 | t1
  · rw [t1]
    exact mk
  · refine t1 (fun a b => gt_M G z t b i j → gt_M G z t a i j) (fun a b a0 a1 b0 y hb => gy_lf_M hG e2 i0 iz y ⟨i, rfl, ij, Or.inl ⟨by omega, ?_⟩⟩) (fun a b c _ _ _ _ _ y1 y2 hc => y1 (y2 hc)) mk
    have e : -1 - (-1 - b) = b := by omega
    rw [e]
    exact hb
/-- and the other way -/
theorem gy_M_Q {G : gm_G} (hG : gm_ok G) {E : Int} {U V : Int → Prop} {z : Int} {t : Int → Int} (fc : gy_fc G E U V z t) {n i j : Int} (h : gt_M G z t n i j) (hV : V n) (ij : i < j) : gy_Q (gm_N G) z t (gy_hs G E U V) n i j := by
  obtain ⟨⟨e1, e2⟩, fU, fV, _⟩ := fc
  have key : gt_M G z t n i j ∧ (V n → i < j → gy_Q (gm_N G) z t (gy_hs G E U V) n i j) := by
    refine h (fun n i j => gt_M G z t n i j ∧ (V n → i < j → gy_Q (gm_N G) z t (gy_hs G E U V) n i j)) (fun r i j r0 r1 i0 iz w => ?_)
    obtain ⟨p1, p2, p3, p4, p5⟩ := hG.2.2.2.2.1 r r0 r1
    have mono : ∀ (c : Nat) (p : Int), gt_rw (gt_pm G z t (fun n i j => gt_M G z t n i j ∧ (V n → i < j → gy_Q (gm_N G) z t (gy_hs G E U V) n i j)) r) c i p → gt_rw (gt_pm G z t (gt_M G z t) r) c i p := by
      intro c
      induction c with
      | zero => exact fun p y => y
      | succ c ih => exact fun p ⟨q, y1, y2⟩ => ⟨q, ih q y1, y2.imp id (fun y => ⟨y.1, y.2.1⟩)⟩
    have row : gt_row G z t (gt_M G z t) r (gm_s G r) i j := mono _ j w
    refine ⟨gt_M_cl r i j r0 r1 i0 iz row, fun hv lt => ?_⟩
    have hu := fU r i j r0 r1 i0 iz row
    have st : ∀ (c : Nat) (p : Int), (c : Int) ≤ gm_s G r → gt_rw (gt_pm G z t (fun n i j => gt_M G z t n i j ∧ (V n → i < j → gy_Q (gm_N G) z t (gy_hs G E U V) n i j)) r) c i p → i ≤ p ∧ ∃ b : Int → Prop, (∀ e : Int, 0 ≤ e → e < c → b e ∨ (gm_n G r e ≠ -1 ∧ gb E (gm_n G r e))) ∧ gy_mk z t (gy_Q (gm_N G) z t (gy_hs G E U V)) (gy_sel G r b c) i p := by
      intro c
      induction c with
      | zero =>
        intro p _ y
        have e : i = p := y
        exact ⟨by omega, fun _ => True, fun e a b => by omega, y⟩
      | succ c ih =>
        rintro p hc ⟨q, y1, y2⟩
        obtain ⟨iq, b, b1, b2⟩ := ih q (by omega) y1
        have pn := gm_p_n hG r0 r1 (d := c) (by omega) (by omega)
        have sel : ∀ b2 : Int → Prop, (∀ x : Int, 0 ≤ x → x < c → (b x ↔ b2 x)) → gy_sel G r b2 c = gy_sel G r b c := fun b2 e => (gy_sel_cg c e).symm
        have keep : q < p → ((gm_p G r c < 0 ∧ gy_Q (gm_N G) z t (gy_hs G E U V) (-1 - gm_p G r c) q p) ∨ (0 < gm_p G r c ∧ p = q + 1 ∧ q < z ∧ gb (gm_p G r c) (t q))) → i ≤ p ∧ ∃ b : Int → Prop, (∀ e : Int, 0 ≤ e → e < ((c + 1 : Nat) : Int) → b e ∨ (gm_n G r e ≠ -1 ∧ gb E (gm_n G r e))) ∧ gy_mk z t (gy_Q (gm_N G) z t (gy_hs G E U V)) (gy_sel G r b (c + 1)) i p := by
          intro qp y
          refine ⟨by omega, fun x => x = c ∨ b x, fun e a1 a2 => ?_, ?_⟩
          · by_cases u : e = c
            · exact Or.inl (Or.inl u)
            · exact (b1 e a1 (by omega)).imp Or.inr id
          · rw [gy_sel_t (Or.inl rfl), sel (fun x => x = c ∨ b x) (fun x x0 x1 => ⟨Or.inr, fun y => y.elim (fun u => by omega) id⟩)]
            exact ⟨q, b2, qp, y⟩
        rcases y2 with ⟨a1, a2, a3, a4⟩ | ⟨a1, a2, a3⟩
        · refine keep (by omega) (Or.inr ⟨by omega, a2, a3, a4⟩)
        · have rg := gt_M_rng hG a2
          by_cases qp : q < p
          · refine keep qp (Or.inl ⟨by omega, ?_⟩)
            have e : -1 - gm_p G r c = gm_n G r c := by omega
            rw [e]
            exact a3 (fV r c r0 r1 (by omega) (by omega) hu hv a1) qp
          · have e : p = q := by omega
            rw [e] at a2 ⊢
            refine ⟨iq, fun x => x ≠ c ∧ b x, fun x a1' a2' => ?_, ?_⟩
            · by_cases u : x = c
              · rw [u]
                exact Or.inr ⟨a1, gk_ME hG e1 a2⟩
              · exact (b1 x a1' (by omega)).imp (fun y => ⟨u, y⟩) id
            · rw [gy_sel_f (fun y => y.1 rfl), sel (fun x => x ≠ c ∧ b x) (fun x x0 x1 => ⟨fun y => ⟨by omega, y⟩, fun y => y.2⟩)]
              exact b2
    obtain ⟨_, b, b1, b2⟩ := st (gm_s G r).toNat j (by omega) w
    obtain ⟨v, v1, v2⟩ := gb_ex b 4 (by decide)
    have vb : ∀ x : Int, 0 ≤ x → x < (gm_s G r).toNat → (b x ↔ gb v x) := fun x x0 x1 => (v2 x x0 (by omega)).symm
    rw [gy_sel_cg _ vb] at b2
    have v3 : 0 ≤ v ∧ v < 16 := v1
    have ne : gy_sel G r (gb v) (gm_s G r).toNat ≠ [] := fun y => by
      rw [y] at b2
      have e : i = j := b2
      omega
    have lf : gy_lf G E U V (gm_o G r) (gy_sel G r (gb v) (gm_s G r).toNat) := ⟨r, v, r0, r1, rfl, hu, hv, v3.1, v3.2, fun d d0 d1 => (b1 d d0 (by omega)).imp (vb d d0 (by omega)).mp id, rfl, ne⟩
    generalize hL : gy_sel G r (gb v) (gm_s G r).toNat = L at b2 ne lf
    by_cases un : gy_un L
    · obtain ⟨p, hp, p0⟩ := un
      rw [hp] at b2 lf
      obtain ⟨q, c1, c2, c3⟩ := b2
      have e : i = q := c1
      have hQ : gy_Q (gm_N G) z t (gy_hs G E U V) (-1 - p) i j := by
        rcases c3 with c3 | c3
        · rw [e]
          exact c3.2
        · omega
      obtain ⟨L2, n0, n1, hh, _, _, mk⟩ := gy_Q_inv hQ
      obtain ⟨nu, k, kr, t1, lf2⟩ := hh
      have one : gy_tc (gm_N G) (fun a b => gy_lf G E U V a [-1 - b]) (gm_o G r) (-1 - p) := fun Z z1 _ => z1 _ _ p1 p2 n0 (by
        have e2 : -1 - (-1 - p) = p := by omega
        show gy_lf G E U V (gm_o G r) [-1 - (-1 - p)]
        rw [e2]
        exact lf)
      refine gy_Q_cl p1 p2 ⟨nu, k, kr, Or.inr ?_, lf2⟩ i0 iz mk
      rcases t1 with t1 | t1
      · rw [← t1]
        exact one
      · exact gy_tc_tr n1 one t1
    · exact gy_Q_cl p1 p2 ⟨un, _, ⟨p1, p2⟩, Or.inl rfl, lf⟩ i0 iz b2
  exact key.2 hV ij
/-- of the first name -/
theorem gy_Q_0 {G : gm_G} (hG : gm_ok G) {E : Int} {U V : Int → Prop} {z : Int} {t : Int → Int} (fc : gy_fc G E U V z t) {k : Int} : (gy_pr (gm_N G) (gy_hs G E U V) 0 ∧ gy_Q (gm_N G) z t (gy_hs G E U V) 0 0 k) ↔ (0 < k ∧ gt_M G z t 0 0 k) := by
  constructor
  · rintro ⟨_, y⟩
    exact ⟨(gy_Q_rng (fun n L h => gy_hs_ne h) y).2.2.2.1, gy_Q_M hG fc.1.2 y⟩
  · rintro ⟨y1, y2⟩
    have q := gy_M_Q hG fc y2 (fc.2.2.2 0 k y2) y1
    exact ⟨gy_pr_0 (gy_Q_es q), q⟩
