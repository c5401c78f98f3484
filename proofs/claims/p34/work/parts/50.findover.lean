/-- a name n leads to a name i by a rule before r (or r itself, before its part d): all other parts are of E -/
def gm_ob (G : gm_G) (E r d n i : Int) : Prop := ∃ q e, 0 ≤ q ∧ (q < r ∨ (q = r ∧ e < d)) ∧ gm_o G q = n ∧ 0 ≤ e ∧ e < gm_s G q ∧ gm_n G q e = i ∧ gm_er G E q 0 e
theorem gm_ob_0 {G : gm_G} {E n i : Int} : ¬ gm_ob G E 0 0 n i := by
  rintro ⟨q, e, a, b, _, c, _⟩
  omega
theorem gm_ob_s {G : gm_G} {E r d n i : Int} (r0 : 0 ≤ r) (d0 : 0 ≤ d) (d1 : d < gm_s G r) : gm_ob G E r (d + 1) n i ↔ gm_ob G E r d n i ∨ (gm_o G r = n ∧ gm_n G r d = i ∧ gm_er G E r 0 d) := by
  constructor
  · rintro ⟨q, e, a1, a2, a3, a4, a5, a6, a7⟩
    by_cases c : q = r ∧ e = d
    · obtain ⟨rfl, rfl⟩ := c
      exact Or.inr ⟨a3, a6, a7⟩
    · exact Or.inl ⟨q, e, a1, by omega, a3, a4, a5, a6, a7⟩
  · rintro (⟨q, e, a1, a2, a3, a4, a5, a6, a7⟩ | ⟨a3, a6, a7⟩)
    · exact ⟨q, e, a1, by omega, a3, a4, a5, a6, a7⟩
    · exact ⟨r, d, r0, Or.inr ⟨rfl, by omega⟩, a3, d0, d1, a6, a7⟩
theorem gm_ob_n {G : gm_G} {E r d n i : Int} (r0 : 0 ≤ r) (d1 : gm_s G r ≤ d) : gm_ob G E r d n i ↔ gm_ob G E (r + 1) 0 n i := by
  constructor
  · rintro ⟨q, e, a1, a2, a3, a4, a5, a6, a7⟩
    exact ⟨q, e, a1, by omega, a3, a4, a5, a6, a7⟩
  · rintro ⟨q, e, a1, a2, a3, a4, a5, a6, a7⟩
    by_cases c : q = r
    · subst c
      exact ⟨q, e, a1, by omega, a3, a4, a5, a6, a7⟩
    · exact ⟨q, e, a1, by omega, a3, a4, a5, a6, a7⟩
/-- T is what P leads to, over others, and no more -/
def gm_tcp (N : Int) (P : Int → Int → Prop) (T : Int → Int) : Prop := (∀ n i, 0 ≤ n → n < N → 0 ≤ i → P n i → gb (T n) i) ∧ (∀ n j i, 0 ≤ n → n < N → 0 ≤ j → j < N → 0 ≤ i → gb (T n) j → gb (T j) i → gb (T n) i) ∧ ∀ Z : Int → Int → Prop, (∀ n i, 0 ≤ n → n < N → 0 ≤ i → P n i → Z n i) → (∀ n j i, 0 ≤ n → n < N → 0 ≤ j → j < N → 0 ≤ i → Z n j → Z j i → Z n i) → ∀ n i, 0 ≤ n → n < N → 0 ≤ i → gb (T n) i → Z n i
theorem gm_tc_p {N : Int} {A T : Int → Int} {P : Int → Int → Prop} (h : gm_tc N A T) (e : ∀ n i, 0 ≤ n → n < N → 0 ≤ i → (gb (A n) i ↔ P n i)) : gm_tcp N P T :=
  ⟨fun n i a b c z => h.1 n i a b c ((e n i a b c).mpr z), h.2.1, fun Z z1 z2 => h.2.2 Z (fun n i a b c z => z1 n i a b c ((e n i a b c).mp z)) z2⟩
theorem gm_tcp_uniq {N : Int} {P : Int → Int → Prop} {T S : Int → Int} (h : gm_tcp N P T) (h2 : gm_tcp N P S) {n : Int} (n0 : 0 ≤ n) (n1 : n < N) {k : Nat} (b1 : gbs k (T n)) (b2 : gbs k (S n)) : T n = S n :=
  gb_ext b1 b2 (fun i i0 _ => ⟨h.2.2 (fun n i => gb (S n) i) h2.1 h2.2.1 n i n0 n1 i0, h2.2.2 (fun n i => gb (T n) i) h.1 h.2.1 n i n0 n1 i0⟩)
theorem gm_findOver {m : gh_M} {G : gm_G} {Q : Int → gh_M → Prop} (hG : gm_ok G) (hC : gm_C m G) (hE : gbs 8 (m 20 1)) (h : ∀ m1, gx [24] m m1 → (∀ n, 0 ≤ n → n < gm_N G → gbs (gm_N G).toNat (m1 24 n)) → gm_tcp (gm_N G) (gm_ob G (m 20 1) (gm_R G) 0) (m1 24) → Q 0 m1) : w_Facts_findOver m Q := by
  have hN0 := hG.1
  have hN := hG.2.1
  have hR0 := hG.2.2.1
  have hR := hG.2.2.2.1
  refine ⟨fun r m1 => 0 ≤ r ∧ r ≤ gm_R G ∧ gx [24] m m1 ∧ ∀ n, 0 ≤ n → n < gm_N G → gbs (gm_N G).toNat (m1 24 n) ∧ ∀ i, 0 ≤ i → (gb (m1 24 n) i ↔ gm_ob G (m 20 1) r 0 n i), fun r _ => (30 - r).toNat, ⟨Int.le_refl _, hR0, gx_fil gx_rf (List.mem_singleton.mpr rfl), fun n n0 n1 => ?_⟩, ?_⟩
  · have e : (gh_fil m 24 8 0) 24 n = 0 := by
      unfold gh_fil
      rw [if_pos ⟨rfl, n0, by omega⟩]
    rw [e]
    exact ⟨gbs_0 _, fun i i0 => ⟨fun z => absurd z (gb_0 i), fun z => absurd z gm_ob_0⟩⟩
  rintro r m1 ⟨r0, r1, hx, hn⟩
  unfold f_Facts_findOver_10
  have cm := gm_C_x hx (by decide) hC
  rw [cm.1, cm.2.1]
  refine ⟨fun c => ?_, fun c => ?_⟩
  · refine ⟨fun d m2 => 0 ≤ d ∧ d ≤ gm_s G r ∧ gx [24] m m2 ∧ ∀ n, 0 ≤ n → n < gm_N G → gbs (gm_N G).toNat (m2 24 n) ∧ ∀ i, 0 ≤ i → (gb (m2 24 n) i ↔ gm_ob G (m 20 1) r d n i), fun d _ => (10 - d).toNat, ⟨Int.le_refl _, (hG.2.2.2.2.1 r r0 c).2.2.1, hx, hn⟩, ?_⟩
    rintro d m2 ⟨d0, d1, hx2, hn2⟩
    obtain ⟨p1, p2, p3, p4, p5⟩ := hG.2.2.2.2.1 r r0 c
    have cm2 := gm_C_x hx2 (by decide) hC
    have e20 : m2 20 1 = m 20 1 := by rw [hx2 20 (by decide)]
    unfold f_Facts_findOver_23
    rw [(cm2.2.2 r r0 c).1, (cm2.2.2 r r0 c).2.1]
    refine ⟨r0, by omega, fun c2 => ?_, fun c2 => ?_⟩
    · obtain ⟨k1, x1⟩ := gm_nameAt hG cm2 r0 c (d := d) d0 c2
      refine ⟨k1, ?_⟩
      rintro _ rfl
      rw [x1]
      have hw := gm_n_rng hG r0 c (d := d) d0 c2
      refine ⟨fun m3 => gx [24] m m3 ∧ ∀ n, 0 ≤ n → n < gm_N G → gbs (gm_N G).toNat (m3 24 n) ∧ ∀ i, 0 ≤ i → (gb (m3 24 n) i ↔ gm_ob G (m 20 1) r (d + 1) n i), ?_, fun z => ⟨hx2, fun n n0 n1 => ⟨(hn2 n n0 n1).1, fun i i0 => ?_⟩⟩, fun z => ?_⟩
      · rintro m3 ⟨a1, a2⟩
        exact ⟨⟨by omega, by omega⟩, ⟨by omega, by omega, a1, a2⟩, by show (10 - (d + 1)).toNat < (10 - d).toNat; omega⟩
      · rw [(hn2 n n0 n1).2 i i0, gm_ob_s r0 d0 c2]
        exact ⟨Or.inl, fun y => y.elim id (fun w => by omega)⟩
      · refine gm_isEmptyRow hG cm2 (by rw [e20]; exact hE) r0 c (Int.le_refl _) (by decide) (fun y => ?_) (fun y => ?_)
        · rw [e20] at y
          refine ⟨fun w => absurd w (by decide), fun _ => ⟨r0, by omega, p1, by omega, p1, by omega, gx_u hx2 (List.mem_singleton.mpr rfl), fun n n0 n1 => ?_⟩⟩
          have b1 : gbs (gm_N G).toNat (gh_ishl_f 1 (gm_n G r d)) := gbs_one (by omega) (by omega) (by omega)
          rw [gm_u_rowa]
          unfold gm_upd
          by_cases e : n = gm_o G r
          · rw [if_pos e, ← e]
            refine ⟨gbs_or (by omega) (hn2 n n0 n1).1 b1, fun i i0 => ?_⟩
            rw [gb_ior (by omega) (hn2 n n0 n1).1 b1, gb_ishl1 (by omega) (by omega) i0, (hn2 n n0 n1).2 i i0, gm_ob_s r0 d0 c2]
            exact ⟨fun w => w.elim Or.inl (fun w => Or.inr ⟨e.symm, w.symm, y⟩), fun w => w.elim Or.inl (fun w => Or.inr w.2.1.symm)⟩
          · rw [if_neg e]
            refine ⟨(hn2 n n0 n1).1, fun i i0 => ?_⟩
            rw [(hn2 n n0 n1).2 i i0, gm_ob_s r0 d0 c2]
            exact ⟨Or.inl, fun w => w.elim id (fun w => absurd w.1.symm e)⟩
        · rw [e20] at y
          refine ⟨fun _ => ⟨hx2, fun n n0 n1 => ⟨(hn2 n n0 n1).1, fun i i0 => ?_⟩⟩, fun w => absurd rfl w⟩
          rw [(hn2 n n0 n1).2 i i0, gm_ob_s r0 d0 c2]
          exact ⟨Or.inl, fun w => w.elim id (fun w => absurd w.2.2 y)⟩
    · refine ⟨⟨by omega, by omega⟩, ⟨by omega, by omega, hx2, fun n n0 n1 => ⟨(hn2 n n0 n1).1, fun i i0 => ?_⟩⟩, by show (30 - (r + 1)).toNat < (30 - r).toNat; omega⟩
      rw [(hn2 n n0 n1).2 i i0]
      exact gm_ob_n r0 (by omega)
  · have e : r = gm_R G := by omega
    subst e
    refine gm_closeOver24 (by omega) hN (fun n n0 n1 => (hn n n0 n1).1) (fun m2 hx2 hb2 ht => ?_)
    exact h m2 (gx_tr (T := [24]) hx hx2) hb2 (gm_tc_p ht (fun n i n0 n1 i0 => (hn n n0 n1).2 i i0))

