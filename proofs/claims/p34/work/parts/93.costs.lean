/-! CHANGES: the class's table -/
def gr_C (m : gh_M) (n i j : Int) : Int := m 39 ((n * 9 + i) * 9 + j)
theorem gr_sm_eq {G : gm_G} (hG : gm_ok G) {t t2 : Int → Int} {C D : Int → Int → Int → Int} {r i j s : Int} (r0 : 0 ≤ r) (r1 : r < gm_R G) (s0 : 0 ≤ s) (s1 : s ≤ gm_s G r) {c : Int → Int} (hc : gr_In i j s c) (ht : ∀ l, i ≤ l → l < j → t l = t2 l) (h : ∀ n e k, 0 ≤ n → n < gm_N G → i ≤ e → e ≤ k → k ≤ j → C n e k = D n e k) : gr_sm G t C r c s.toNat = gr_sm G t2 D r c s.toNat := by
  refine gsum_cg _ (fun d d0 d1 => ?_)
  have y1 := gr_In_rng s0 hc (d := d) d0 (by omega)
  have y2 := gr_In_rng s0 hc (d := d + 1) (by omega) (by omega)
  have y3 := hc.2.2 d d0 (by omega)
  have nn := gm_n_rng hG r0 r1 (d := d) d0 (by omega)
  unfold gr_pc
  by_cases q : gm_n G r d = -1
  · rw [if_pos q, if_pos q]
    have : gt_ib (gr_ft G t r d (c d) (c (d + 1))) = gt_ib (gr_ft G t2 r d (c d) (c (d + 1))) := gt_ib_cg ⟨fun ⟨l, a, b, y⟩ => ⟨l, a, b, by rw [← ht l (by omega) (by omega)]; exact y⟩, fun ⟨l, a, b, y⟩ => ⟨l, a, b, by rw [ht l (by omega) (by omega)]; exact y⟩⟩
    rw [this]
  · rw [if_neg q, if_neg q]
    exact h _ _ _ (by omega) (by omega) y1.1 y3 y2.2
theorem gr_A_cg {G : gm_G} (hG : gm_ok G) {t t2 : Int → Int} {C D : Int → Int → Int → Int} {r i j : Int} (r0 : 0 ≤ r) (r1 : r < gm_R G) (ht : ∀ l, i ≤ l → l < j → t l = t2 l) (h : ∀ n e k, 0 ≤ n → n < gm_N G → i ≤ e → e ≤ k → k ≤ j → C n e k = D n e k) (w : Int) : gr_A G t C r i (gm_s G r) j w ↔ gr_A G t2 D r i (gm_s G r) j w := by
  have s0 := (hG.2.2.2.2.1 r r0 r1).2.2.1
  constructor
  · rintro ⟨c, hc, hw⟩
    exact ⟨c, hc, by rw [← gr_sm_eq hG r0 r1 s0 (Int.le_refl _) hc ht h]; exact hw⟩
  · rintro ⟨c, hc, hw⟩
    exact ⟨c, hc, by rw [gr_sm_eq hG r0 r1 s0 (Int.le_refl _) hc ht h]; exact hw⟩
theorem gr_F_cg {G : gm_G} (hG : gm_ok G) {U : Int → Prop} {t t2 : Int → Int} {C D : Int → Int → Int → Int} {i j r : Int} {L : Int → Int} (r0 : 0 ≤ r) (r1 : r < gm_R G) (ht : ∀ l, i ≤ l → l < j → t l = t2 l) (h : ∀ n e k, 0 ≤ n → n < gm_N G → i ≤ e → e ≤ k → k ≤ j → ¬ (e = i ∧ k = j) → C n e k = D n e k) : gr_F G U t C i j r L = gr_F G U t2 D i j r L := by
  by_cases u : U r
  · rw [gr_F_t u, gr_F_t u]
    by_cases q : gm_s G r = 0
    · rw [if_pos q, if_pos q]
    · rw [if_neg q, if_neg q]
      refine gmn_cg (gr_A_cg hG r0 r1 ht (fun n e k n0 n1 e0 ek kj => ?_))
      by_cases c : e = i ∧ k = j
      · rw [if_pos c, if_pos c]
      · rw [if_neg c, if_neg c]
        exact h n e k n0 n1 e0 ek kj c
  · rw [gr_F_f u, gr_F_f u]
def gr_fin (G : gm_G) (U : Int → Prop) (t : Int → Int) (C : Int → Int → Int → Int) (i j : Int) : Prop := gf_r (gm_N G) 16777216 (fun n => C n i j) ∧ gf_cl (gm_R G) (gm_o G) (gr_F G U t C i j) (fun n => C n i j) ∧ gf_so (gm_N G) (gm_R G) 16777216 (gm_o G) (gr_F G U t C i j) (fun n => C n i j)
/-- the costs up to the place j are the last ones -/
def gr_P (G : gm_G) (U : Int → Prop) (S : Int → Int) (t : Int → Int) (C : Int → Int → Int → Int) (j : Int) : Prop := (∀ n, 0 ≤ n → n < gm_N G → C n j j = S n) ∧ ∀ i, 0 ≤ i → i < j → gr_fin G U t C i j
theorem gf_lift {N R K : Int} {o : Int → Int} {F F2 : Int → (Int → Int) → Int} (hs : gf_sys N R K o F2) {L L2 : Int → Int} (hL : ∀ n, 0 ≤ n → n < N → L n = L2 n) (hF : ∀ r Z, 0 ≤ r → r < R → F r Z = F2 r Z) (h : gf_r N K L ∧ gf_cl R o F L ∧ gf_so N R K o F L) : gf_r N K L2 ∧ gf_cl R o F2 L2 ∧ gf_so N R K o F2 L2 := by
  obtain ⟨h1, h2, h3⟩ := h
  have r2 : gf_r N K L2 := fun n n0 n1 => by rw [← hL n n0 n1]; exact h1 n n0 n1
  refine ⟨r2, fun r r0 r1 => ?_, fun Z z1 z2 n n0 n1 => ?_⟩
  · obtain ⟨p1, p2⟩ := hs.1 r r0 r1
    have a := h2 r r0 r1
    rw [hL _ p1 p2, hF r L r0 r1] at a
    have b := hs.2.2 r L L2 r0 r1 h1 r2 (fun n n0 n1 => by rw [hL n n0 n1]; exact Int.le_refl _)
    omega
  · rw [← hL n n0 n1]
    exact h3 Z z1 (fun r r0 r1 => by rw [hF r Z r0 r1]; exact z2 r r0 r1) n n0 n1
theorem gr_P_cg {G : gm_G} (hG : gm_ok G) {U : Int → Prop} {S : Int → Int} {t t2 : Int → Int} {C D : Int → Int → Int → Int} {j : Int} (j0 : 0 ≤ j) (j8 : j ≤ 8) (ht : ∀ l, 0 ≤ l → l < j → t l = t2 l) (hD : ∀ n e k, 0 ≤ n → n < gm_N G → 0 ≤ e → e ≤ k → k ≤ j → 0 ≤ D n e k) (h : ∀ n e k, 0 ≤ n → n < gm_N G → 0 ≤ e → e ≤ k → k ≤ j → C n e k = D n e k) (hp : gr_P G U S t C j) : gr_P G U S t2 D j := by
  refine ⟨fun n n0 n1 => ?_, fun i i0 ij => ?_⟩
  · rw [← h n j j n0 n1 j0 (Int.le_refl _) (Int.le_refl _)]
    exact hp.1 n n0 n1
  · obtain ⟨sys, tri⟩ := gr_sys hG (U := U) (t := t2) (C := D) i0 ij j8 (fun n e k n0 n1 e0 ek kj _ => hD n e k n0 n1 (by omega) ek kj)
    exact gf_lift sys (fun n n0 n1 => h n i j n0 n1 i0 (by omega) (Int.le_refl _)) (fun r Z r0 r1 => gr_F_cg hG r0 r1 (fun l l0 l1 => ht l (by omega) l1) (fun n e k n0 n1 e0 ek kj _ => h n e k n0 n1 (by omega) ek kj)) (hp.2 i i0 ij)
theorem gr_findCosts {m : gh_M} {G : gm_G} {Q : Int → gh_M → Prop} (hG : gm_ok G) (hC : gm_C m G) (ht : gt_t m) (hU : gbs 20 (m 20 5)) (hL : gm_Lr G (m 21)) {j : Int} (j0 : 0 ≤ j) (j1 : j ≤ m 26 3) (hV : ∀ n e k, 0 ≤ n → n < gm_N G → 0 ≤ e → e ≤ k → k < j → 0 ≤ gr_C m n e k ∧ gr_C m n e k ≤ 16777216) (h : ∀ m1, gx [39, 40] m m1 → (∀ x, x % 9 ≠ j → m1 39 x = m 39 x) → gr_P G (gb (m 20 5)) (m 21) (m 27) (gr_C m1) j → Q 0 m1) : w_Wants_findCosts j m Q := by
  have hN0 := hG.1
  have hN := hG.2.1
  have hR0 := hG.2.2.1
  have hR := hG.2.2.2.1
  have ht2 := ht.2.1
  refine ⟨fun n m1 => 0 ≤ n ∧ n ≤ gm_N G ∧ gx [39, 40] m m1 ∧ (∀ x, x % 9 ≠ j → m1 39 x = m 39 x) ∧ ∀ i, 0 ≤ i → i < n → m1 39 ((i * 9 + j) * 9 + j) = m 21 i, fun n _ => (30 - n).toNat, ⟨by omega, by omega, gx_rf, fun _ _ => rfl, fun i a b => by omega⟩, ?_⟩
  rintro n m1 ⟨n0, n1, hx, ag, hl⟩
  unfold f_Wants_findCosts_2
  rw [(gm_C_x hx (by decide) hC).1, hx 21 (by decide)]
  refine ⟨fun c => ⟨by omega, by omega, by omega, by omega, by omega, by omega, ⟨by omega, by omega, gx_u hx (by decide), fun x xj => ?_, fun i i0 i1 => ?_⟩, by (try dsimp only); omega⟩, fun c => ⟨by omega, ?_⟩⟩
  · rw [gh_u_i (by omega)]
    exact ag x xj
  · by_cases e : i = n
    · rw [e, gh_u_s]
    · rw [gh_u_i (by omega)]
      exact hl i i0 (by omega)
  rintro _ rfl
  refine ⟨fun i m2 => -1 ≤ i ∧ i < j ∧ gx [39, 40] m m2 ∧ (∀ x, x % 9 ≠ j → m2 39 x = m 39 x) ∧ (∀ n, 0 ≤ n → n < gm_N G → gr_C m2 n j j = m 21 n) ∧ ∀ e, i < e → e < j → gr_fin G (gb (m 20 5)) (m 27) (gr_C m2) e j, fun i _ => (i + 2).toNat, ⟨by omega, by omega, hx, ag, fun n n0 n1 => hl n n0 (by omega), fun e a b => by omega⟩, ?_⟩
  rintro i m2 ⟨i0, i1, hx2, ag2, hd, hf⟩
  unfold f_Wants_findCosts_43
  refine ⟨fun c2 => h m2 hx2 ag2 ⟨hd, fun e e0 e1 => hf e (by omega) e1⟩, fun c2 => ?_⟩
  have ii : 0 ≤ i := by omega
  refine ⟨fun n m3 => 0 ≤ n ∧ n ≤ gm_N G ∧ gx [39, 40] m m3 ∧ (∀ x, x % 9 ≠ j → m3 39 x = m 39 x) ∧ (∀ n e, 0 ≤ e → e ≤ 8 → e ≠ i → m3 39 ((n * 9 + e) * 9 + j) = m2 39 ((n * 9 + e) * 9 + j)) ∧ ∀ n', 0 ≤ n' → n' < n → m3 39 ((n' * 9 + i) * 9 + j) = 16777216, fun n _ => (30 - n).toNat, ⟨by omega, by omega, hx2, ag2, fun _ _ _ _ _ => rfl, fun n' a b => by omega⟩, ?_⟩
  rintro n3 m3 ⟨n30, n31, hx3, ag3, ae3, hfar⟩
  unfold f_Wants_findCosts_49
  rw [(gm_C_x hx3 (by decide) hC).1]
  refine ⟨fun c3 => ⟨by omega, by omega, by omega, by omega, ⟨by omega, by omega, gx_u hx3 (by decide), fun x xj => ?_, fun n e e0 e1 ne => ?_, fun n' a b => ?_⟩, by (try dsimp only); omega⟩, fun c3 => ?_⟩
  · rw [gh_u_i (by omega)]
    exact ag3 x xj
  · rw [gh_u_i (by omega)]
    exact ae3 n e e0 e1 ne
  · by_cases e : n' = n3
    · rw [e, gh_u_s]
    · rw [gh_u_i (by omega)]
      exact hfar n' a (by omega)
  have far : ∀ n, 0 ≤ n → n < gm_N G → m3 39 ((n * 9 + i) * 9 + j) = 16777216 := fun n a b => hfar n a (by omega)
  -- what lies within the interval
  have vr : ∀ n e k, 0 ≤ n → n < gm_N G → i ≤ e → e ≤ k → k ≤ j → ¬ (e = i ∧ k = j) → 0 ≤ gr_C m3 n e k ∧ gr_C m3 n e k ≤ 16777216 := fun n e k n0 n1 e0 ek kj nn => by
    unfold gr_C
    by_cases q : k = j
    · rw [q, ae3 n e (by omega) (by omega) (by omega)]
      by_cases q2 : e = j
      · rw [q2]
        have := hd n n0 n1
        unfold gr_C at this
        rw [this]
        exact hL n n0 n1
      · exact (hf e (by omega) (by omega)).1 n n0 n1
    · rw [ag3 _ (by omega)]
      exact hV n e k n0 n1 (by omega) ek (by omega)
  obtain ⟨sys, tri⟩ := gr_sys hG (U := gb (m 20 5)) (t := m 27) (C := gr_C m3) ii i1 (by omega) (fun n e k n0 n1 e0 ek kj nn => (vr n e k n0 n1 e0 ek kj nn).1)
  obtain ⟨S, s1, s2, s3⟩ := gf_ex (by decide) sys
  refine ⟨fun g v m4 => (g = 0 ∨ g = 1) ∧ 0 ≤ v ∧ v ≤ gm_N G ∧ gx [39, 40] m m4 ∧ (∀ x, x % 9 ≠ j → m4 39 x = m 39 x) ∧ (∀ n e, 0 ≤ e → e ≤ 8 → e ≠ i → m4 39 ((n * 9 + e) * 9 + j) = m2 39 ((n * 9 + e) * 9 + j)) ∧ gf_r (gm_N G) 16777216 (fun n => gr_C m4 n i j) ∧ gf_so (gm_N G) (gm_R G) 16777216 (gm_o G) (gr_F G (gb (m 20 5)) (m 27) (gr_C m3) i j) (fun n => gr_C m4 n i j) ∧ (g = 0 → gf_cl (gm_R G) (gm_o G) (gr_F G (gb (m 20 5)) (m 27) (gr_C m3) i j) (fun n => gr_C m4 n i j)) ∧ ((∀ n, 0 ≤ n → n < gm_N G → gr_C m4 n i j = S n) ∨ (g = 1 → v ≤ gct (fun n => decide (gr_C m4 n i j = S n)) (gm_N G).toNat)), fun _ v _ => (30 - v).toNat, ⟨Or.inr rfl, by omega, by omega, hx3, ag3, ae3, fun n n0 n1 => ?_, fun Z z1 _ n n0 n1 => ?_, fun e => absurd e (by decide), Or.inr (fun _ => by omega)⟩, ?_⟩
  · show 0 ≤ m3 39 ((n * 9 + i) * 9 + j) ∧ m3 39 ((n * 9 + i) * 9 + j) ≤ 16777216
    rw [far n n0 n1]
    decide
  · show Z n ≤ m3 39 ((n * 9 + i) * 9 + j)
    rw [far n n0 n1]
    exact (z1 n n0 n1).2
  rintro g v m4 ⟨g01, v0, v1, hx4, ag4, ae4, lr, ls, lcl, lc⟩
  have c4 := gm_C_x hx4 (by decide) hC
  unfold f_Wants_findCosts_84
  rw [c4.1]
  refine ⟨fun m5 => m5 = m4 ∧ (g = 0 ∨ v = gm_N G), ?_, fun c5 => ?_, fun c5 => ⟨rfl, by omega⟩⟩
  · rintro m5 ⟨rfl, ge⟩
    have clo : gf_cl (gm_R G) (gm_o G) (gr_F G (gb (m 20 5)) (m 27) (gr_C m3) i j) (fun n => gr_C m5 n i j) := by
      rcases ge with ge | ge
      · exact lcl ge
      · have all : ∀ n, 0 ≤ n → n < gm_N G → gr_C m5 n i j = S n := by
          rcases lc with lc | lc
          · exact lc
          · rcases g01 with g0 | g1
            · intro n n0 n1
              have a := s3 _ lr (lcl g0) n n0 n1
              have b := ls S s1 s2 n n0 n1
              dsimp only at a b
              omega
            · exact fun n n0 n1 => of_decide_eq_true (gct_full (p := fun n => decide (gr_C m5 n i j = S n)) (gm_N G).toNat (by have := lc g1; omega) n n0 (by omega))
        intro r r0 r1
        obtain ⟨p1, p2⟩ := sys.1 r r0 r1
        have a := s2 r r0 r1
        have b := sys.2.2 r S (fun n => gr_C m5 n i j) r0 r1 s1 lr (fun n n0 n1 => by have := all n n0 n1; (try dsimp only); omega)
        have c := all _ p1 p2
        dsimp only
        omega
    refine ⟨by omega, ⟨by omega, by omega, hx4, ag4, fun n n0 n1 => ?_, fun e e0 e1 => ?_⟩, by (try dsimp only); omega⟩
    · unfold gr_C
      rw [ae4 n j j0 (by omega) (by omega)]
      exact hd n n0 n1
    · by_cases q : e = i
      · rw [q]
        have vr5 : ∀ n e k, 0 ≤ n → n < gm_N G → i ≤ e → e ≤ k → k ≤ j → ¬ (e = i ∧ k = j) → gr_C m3 n e k = gr_C m5 n e k := fun n e k n0 n1 e0 ek kj nn => by
          unfold gr_C
          by_cases q : k = j
          · rw [q, ae3 n e (by omega) (by omega) (by omega), ae4 n e (by omega) (by omega) (by omega)]
          · rw [ag3 _ (by omega), ag4 _ (by omega)]
        obtain ⟨sys5, _⟩ := gr_sys hG (U := gb (m 20 5)) (t := m 27) (C := gr_C m5) ii i1 (by omega) (fun n e k n0 n1 e0 ek kj nn => by rw [← vr5 n e k n0 n1 e0 ek kj nn]; exact (vr n e k n0 n1 e0 ek kj nn).1)
        exact gf_lift sys5 (fun _ _ _ => rfl) (fun r Z r0 r1 => gr_F_cg hG r0 r1 (fun _ _ _ => rfl) vr5) ⟨lr, clo, ls⟩
      · have vr5 : ∀ n e' k, 0 ≤ n → n < gm_N G → e ≤ e' → e' ≤ k → k ≤ j → gr_C m2 n e' k = gr_C m5 n e' k := fun n e' k n0 n1 e0' ek kj => by
          unfold gr_C
          by_cases q : k = j
          · rw [q, ae4 n e' (by omega) (by omega) (by omega)]
          · rw [ag2 _ (by omega), ag4 _ (by omega)]
        have old := hf e (by omega) e1
        obtain ⟨sys5, _⟩ := gr_sys hG (U := gb (m 20 5)) (t := m 27) (C := gr_C m5) (i := e) (by omega) e1 (by omega) (fun n e' k n0 n1 e0' ek kj nn => by
          unfold gr_C
          by_cases q : k = j
          · rw [q, ae4 n e' (by omega) (by omega) (by omega)]
            by_cases q2 : e' = j
            · rw [q2]
              have := hd n n0 n1
              unfold gr_C at this
              rw [this]
              exact (hL n n0 n1).1
            · exact ((hf e' (by omega) (by omega)).1 n n0 n1).1
          · rw [ag4 _ (by omega)]
            exact (hV n e' k n0 n1 (by omega) ek (by omega)).1)
        exact gf_lift sys5 (fun n n0 n1 => vr5 n e j n0 n1 (Int.le_refl _) (by omega) (Int.le_refl _)) (fun r Z r0 r1 => gr_F_cg hG r0 r1 (fun _ _ _ => rfl) (fun n e' k n0 n1 e0' ek kj _ => vr5 n e' k n0 n1 e0' ek kj)) old
  · have g1 : g = 1 := g01.resolve_left c5.1
    refine ⟨fun f r m5 => (f = 0 ∨ f = 1) ∧ 0 ≤ r ∧ r ≤ gm_R G ∧ gx [39, 40] m m5 ∧ (∀ x, x % 9 ≠ j → m5 39 x = m 39 x) ∧ (∀ n e, 0 ≤ e → e ≤ 8 → e ≠ i → m5 39 ((n * 9 + e) * 9 + j) = m2 39 ((n * 9 + e) * 9 + j)) ∧ gf_ps (gm_N G) (gm_R G) 16777216 (gm_o G) (gr_F G (gb (m 20 5)) (m 27) (gr_C m3) i j) S (fun n => gr_C m4 n i j) (fun n => gr_C m5 n i j) r ∧ (f = 0 → (∀ n, gr_C m5 n i j = gr_C m4 n i j) ∧ ∀ q, 0 ≤ q → q < r → gr_C m4 (gm_o G q) i j ≤ gr_F G (gb (m 20 5)) (m 27) (gr_C m3) i j q (fun n => gr_C m4 n i j)), fun _ r _ => (30 - r).toNat, ⟨Or.inl rfl, by omega, by omega, hx4, ag4, ae4, gf_ps_0 lr ls, fun _ => ⟨fun _ => rfl, fun q a b => by omega⟩⟩, ?_⟩
    rintro f r m5 ⟨f01, r0, r1, hx5, ag5, ae5, ps, hf0⟩
    have c5' := gm_C_x hx5 (by decide) hC
    have f26 : m5 26 = m 26 := hx5 26 (by decide)
    have f27 : m5 27 = m 27 := hx5 27 (by decide)
    have f20 : m5 20 = m 20 := hx5 20 (by decide)
    have ht5 : gt_t m5 := by
      unfold gt_t
      rw [f26, f27]
      exact ht
    unfold f_Wants_findCosts_105
    rw [c5'.2.1]
    refine ⟨fun c6 => ?_, fun c6 => ⟨by omega, ⟨f01, by omega, by omega, hx5, ag5, ae5, ps.1, ps.2.1, fun e => ?_, ?_⟩, by (try dsimp only); omega⟩⟩
    · obtain ⟨p1, p2, p3, p4, p5⟩ := hG.2.2.2.2.1 r r0 c6
      rw [(c5'.2.2 r r0 c6).1]
      refine ⟨r0, by omega, by omega, ?_⟩
      rintro _ rfl
      refine ⟨fun y0 m6 => gx [40] m5 m6 ∧ y0 = gr_F G (gb (m 20 5)) (m 27) (gr_C m3) i j r (fun n => gr_C m5 n i j), ?_, fun c7 => ?_, fun c7 => ⟨gx_sub (S := []) gx_rf (by decide), ?_⟩⟩
      · rintro y0 m6 ⟨x6, hy⟩
        have e39 : m6 39 = m5 39 := x6 39 (by decide)
        rw [e39]
        refine ⟨fun _ => ⟨by omega, by omega⟩, ?_⟩
        rintro _ rfl
        have hx6 : gx [39, 40] m m6 := gx_tr (T := [40]) hx5 (gx_sub x6 (by decide))
        have col : (fun n => gr_C (gh_u m6 39 ((gm_o G r * 9 + i) * 9 + j) (min (m5 39 ((gm_o G r * 9 + i) * 9 + j)) y0)) n i j) = gm_upd (fun n => gr_C m5 n i j) (gm_o G r) (min (gr_C m5 (gm_o G r) i j) y0) := by
          funext n
          unfold gm_upd gr_C
          by_cases q : n = gm_o G r
          · rw [if_pos q, q, gh_u_s]
          · rw [if_neg q, gh_u_i (by omega), e39]
        have fz : (f = 0 → (if (¬ (f = 0) ∨ (y0 < m5 39 ((gm_o G r * 9 + i) * 9 + j))) then (1 : Int) else 0) = if y0 < m5 39 ((gm_o G r * 9 + i) * 9 + j) then (1 : Int) else 0) ∧ (f = 1 → (if (¬ (f = 0) ∨ (y0 < m5 39 ((gm_o G r * 9 + i) * 9 + j))) then (1 : Int) else 0) = 1) := by
          refine ⟨fun u => ?_, fun u => if_pos (Or.inl (by omega))⟩
          by_cases q : y0 < m5 39 ((gm_o G r * 9 + i) * 9 + j)
          · rw [if_pos q]
            exact if_pos (Or.inr q)
          · rw [if_neg q]
            exact if_neg (fun y => y.elim (fun a => a u) q)
        refine ⟨by omega, by omega, by omega, by omega, by omega, ⟨?_, by omega, by omega, gx_u hx6 (by decide), fun x xj => ?_, fun n e e0 e1 ne => ?_, ?_, fun u => ?_⟩, by (try dsimp only); omega⟩
        · rcases f01 with u | u
          · rw [fz.1 u]
            exact gh_ib01
          · rw [fz.2 u]
            exact Or.inr rfl
        · rw [gh_u_i (by omega), e39]
          exact ag5 x xj
        · rw [gh_u_i (by omega), e39]
          exact ae5 n e e0 e1 ne
        · rw [col, hy]
          exact gf_ps_s sys s1 s2 lr r0 c6 ps
        · have f0 : f = 0 := by
            rcases f01 with u2 | u2
            · exact u2
            · rw [fz.2 u2] at u
              exact absurd u (by decide)
          rw [fz.1 f0] at u
          have nl : ¬ (y0 < m5 39 ((gm_o G r * 9 + i) * 9 + j)) := fun y => by
            rw [if_pos y] at u
            exact absurd u (by decide)
          obtain ⟨k1, k2⟩ := hf0 f0
          have same : ∀ n, gr_C (gh_u m6 39 ((gm_o G r * 9 + i) * 9 + j) (min (m5 39 ((gm_o G r * 9 + i) * 9 + j)) y0)) n i j = gr_C m5 n i j := fun n => by
            unfold gr_C
            by_cases q : n = gm_o G r
            · rw [q, gh_u_s]
              omega
            · rw [gh_u_i (by omega), e39]
          have ec : (fun n => gr_C m5 n i j) = fun n => gr_C m4 n i j := funext k1
          refine ⟨fun n => (same n).trans (k1 n), fun q q0 q1 => ?_⟩
          by_cases e : q = r
          · rw [e, ← ec, ← hy, ← k1]
            unfold gr_C
            omega
          · exact k2 q q0 (by omega)
      · have u : gb (m 20 5) r := by
          unfold p_Facts_isUsefulRule at c7
          rw [f20] at c7
          exact Classical.byContradiction (fun y => c7 ((gb_test0 (i := r) (gbs_le hU (by decide : 20 ≤ 31)) r0 (by omega)).mpr y))
        refine gr_costOfRow hG c5' ht5 r0 c6 ii i1 (by rw [f26]; exact j1) (fun n e k n0 n1 e0 ek kj => ?_) (fun m6 x6 => ⟨x6, ?_⟩)
        · by_cases q : e = i ∧ k = j
          · rw [q.1, q.2]
            exact ps.1 n n0 n1
          · have := vr n e k n0 n1 e0 ek kj q
            unfold gr_C at this
            by_cases q2 : k = j
            · rw [q2, ae5 n e (by omega) (by omega) (by omega)]
              rw [q2, ae3 n e (by omega) (by omega) (by omega)] at this
              exact this
            · rw [ag5 _ (by omega)]
              rw [ag3 _ (by omega)] at this
              exact this
        · rw [gr_F_t u, f27]
          by_cases q : gm_s G r = 0
          · rw [if_pos q, if_pos q]
          · rw [if_neg q, if_neg q]
            refine gmn_cg (gr_A_cg hG r0 c6 (fun _ _ _ => rfl) (fun n e k n0 n1 e0 ek kj => ?_))
            by_cases q : e = i ∧ k = j
            · rw [if_pos q, q.1, q.2]
              rfl
            · rw [if_neg q]
              unfold gr_C
              by_cases q2 : k = j
              · rw [q2, ae5 n e (by omega) (by omega) (by omega), ae3 n e (by omega) (by omega) (by omega)]
              · rw [ag5 _ (by omega), ag3 _ (by omega)]
      · have nu : ¬ gb (m 20 5) r := fun y => by
          refine c7 ?_
          unfold p_Facts_isUsefulRule
          rw [f20]
          exact fun z => (gb_test0 (i := r) (gbs_le hU (by decide : 20 ≤ 31)) r0 (by omega)).mp z y
        exact (gr_F_f nu).symm
    · have er : r = gm_R G := by omega
      obtain ⟨k1, k2⟩ := hf0 e
      intro q q0 q1
      have ec : (fun n => gr_C m5 n i j) = fun n => gr_C m4 n i j := funext k1
      rw [ec]
      exact k2 q q0 (by omega)
    · have er : r = gm_R G := by omega
      rw [er] at ps
      rcases lc with lc | lc
      · refine Or.inl (fun n n0 n1 => ?_)
        have a := ps.2.2.1 n n0 n1
        have b := ps.2.1 S s1 s2 n n0 n1
        have c := lc n n0 n1
        dsimp only at a b
        omega
      · rcases gf_ps_e sys tri s1 s2 s3 lr ls ps with q | q
        · refine Or.inl (fun n n0 n1 => ?_)
          have a := ps.2.2.1 n n0 n1
          have b := ps.2.1 S s1 s2 n n0 n1
          have c := q n n0 n1
          dsimp only at a b c
          omega
        · refine Or.inr (fun _ => ?_)
          have q2 : gct (fun n => decide (gr_C m4 n i j = S n)) (gm_N G).toNat < gct (fun n => decide (gr_C m5 n i j = S n)) (gm_N G).toNat := q
          have := lc g1
          omega

