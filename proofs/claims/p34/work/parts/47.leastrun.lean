/-- only the cells 21 and (20, 2) are other -/
def gm_lx (m m1 : gh_M) : Prop := ∀ a j : Int, a ≠ 21 → ¬ (a = 20 ∧ j = 2) → m1 a j = m a j
theorem gm_lx_rf {m : gh_M} : gm_lx m m := fun _ _ _ _ => rfl
theorem gm_lx_21 {m m1 : gh_M} {i v : Int} (h : gm_lx m m1) : gm_lx m (gh_u m1 21 i v) := fun a j c1 c2 => (gh_u_a c1).trans (h a j c1 c2)
theorem gm_lx_20 {m m1 : gh_M} {v : Int} (h : gm_lx m m1) : gm_lx m (gh_u m1 20 2 v) := by
  intro a j c1 c2
  rw [← h a j c1 c2]
  unfold gh_u
  rw [if_neg c2]
theorem gm_lx_C {m m1 : gh_M} {G : gm_G} (h : gm_lx m m1) (hC : gm_C m G) : gm_C m1 G := by
  have e : ∀ a : Int, a ≠ 21 → a ≠ 20 → m1 a = m a := fun a c1 c2 => by
    funext j
    exact h a j c1 (fun z => c2 z.1)
  unfold gm_C at hC ⊢
  rw [e 13 (by decide) (by decide), e 16 (by decide) (by decide), e 17 (by decide) (by decide), e 19 (by decide) (by decide)]
  exact hC
theorem gm_u_row (m : gh_M) (i v : Int) : (gh_u m 21 i v) 21 = gm_upd (m 21) i v := by
  funext j
  unfold gh_u gm_upd
  by_cases c : j = i
  · rw [if_pos ⟨rfl, c⟩, if_pos c]
  · rw [if_neg (fun z => c z.2), if_neg c]
theorem gm_findLeast {m : gh_M} {G : gm_G} {Q : Int → gh_M → Prop} (hG : gm_ok G) (hC : gm_C m G) (h : ∀ m1, gm_lx m m1 → gm_Lr G (m1 21) → gm_Lcl G (m1 21) → gm_Lso G (m1 21) → gbs (gm_N G).toNat (m1 20 2) → (∀ i, 0 ≤ i → i < gm_N G → (gb (m1 20 2) i ↔ m1 21 i < 16777216)) → Q 0 m1) : w_Facts_findLeast m Q := by
  have hN0 := hG.1
  have hN := hG.2.1
  have hR := hG.2.2.2.1
  obtain ⟨S, s1, s2, s3⟩ := gm_L_ex hG
  have ge : ∀ L : Int → Int, gm_Lso G L → ∀ i, 0 ≤ i → i < gm_N G → S i ≤ L i := fun L z => z S s1 s2
  have far : ∀ i, 0 ≤ i → i < gm_N G → (gh_fil m 21 8 16777216) 21 i = 16777216 := fun i i0 i1 => by
    unfold gh_fil
    rw [if_pos ⟨rfl, i0, by omega⟩]
  refine ⟨fun v m1 => 0 ≤ v ∧ v ≤ gm_N G ∧ gm_lx m m1 ∧ gm_Lr G (m1 21) ∧ gm_Lso G (m1 21) ∧ v ≤ gct (fun i => decide (m1 21 i = S i)) (gm_N G).toNat, fun v _ => (10 - v).toNat, ⟨Int.le_refl _, by omega, ?_, ?_, ?_, by omega⟩, ?_⟩
  · intro a j c1 c2
    unfold gh_fil
    rw [if_neg (fun z => c1 z.1)]
  · intro i i0 i1
    rw [far i i0 i1]
    omega
  · intro Z z1 z2 i i0 i1
    rw [far i i0 i1]
    exact (z1 i i0 i1).2
  rintro v m1 ⟨v0, v1, hx, hL, hs, hc⟩
  unfold f_Facts_findLeast_11
  have cm := gm_lx_C hx hC
  rw [cm.1]
  refine ⟨fun c => ?_, fun c => ?_⟩
  · refine ⟨fun r m2 => 0 ≤ r ∧ r ≤ 20 ∧ gm_lx m m2 ∧ gm_Lr G (m2 21) ∧ gm_Lso G (m2 21) ∧ (∀ i, 0 ≤ i → i < gm_N G → m2 21 i ≤ m1 21 i) ∧ ∀ q, 0 ≤ q → q < r → q < gm_R G → S (gm_o G q) = gm_lr G S q 0 → (∀ e, 0 ≤ e → e < gm_s G q → gm_n G q e ≠ -1 → m1 21 (gm_n G q e) = S (gm_n G q e)) → m2 21 (gm_o G q) = S (gm_o G q), fun r _ => (30 - r).toNat, ⟨Int.le_refl _, by omega, hx, hL, hs, fun i _ _ => Int.le_refl _, fun q a b => by omega⟩, ?_⟩
    rintro r m2 ⟨r0, r1, hx2, hL2, hs2, hm, hq⟩
    unfold f_Facts_findLeast_24
    have cm2 := gm_lx_C hx2 hC
    rw [cm2.2.1]
    refine ⟨fun c2 => ?_, fun c2 => ?_⟩
    · obtain ⟨p1, p2, p3, p4, p5⟩ := hG.2.2.2.2.1 r r0 c2
      rw [(cm2.2.2 r r0 c2).1]
      refine ⟨r0, by omega, ?_⟩
      rintro _ rfl
      refine ⟨p1, by omega, ?_⟩
      refine gm_leastOfRow hG cm2 hL2 r0 c2 (Int.le_refl _) (by decide) ?_
      obtain ⟨a1, a2, a3⟩ := gm_L_add hG hL2 hs2 r0 c2
      refine ⟨p1, by omega, ⟨by omega, by omega⟩, ⟨by omega, by omega, gm_lx_21 hx2, ?_, ?_, ?_, ?_⟩, ?_⟩
      · rw [gm_u_row]
        exact a1
      · rw [gm_u_row]
        exact a2
      · rw [gm_u_row]
        exact fun i i0 i1 => Int.le_trans (a3 i) (hm i i0 i1)
      · rw [gm_u_row]
        intro q q0 q1 q2 z1 z2
        have y1 := hG.2.2.2.2.1 q q0 q2
        have y2 := ge _ a2 _ y1.1 y1.2.1
        by_cases e : q = r
        · subst e
          have e1 : gm_lr G (m2 21) q 0 = gm_lr G S q 0 := by
            unfold gm_lr
            rw [gm_ls_eq (L := m2 21) (Z := S) _ _ (fun e e0 e1 e2 => ?_)]
            have w := gm_n_rng hG q0 q2 (d := e) e0 (by omega)
            have w1 := hm (gm_n G q e) (by omega) (by omega)
            have w2 := ge _ hs2 (gm_n G q e) (by omega) (by omega)
            have w3 := z2 e e0 (by omega) e2
            omega
          have e2 : gm_upd (m2 21) (gm_o G q) (min (m2 21 (gm_o G q)) (gm_lr G (m2 21) q 0)) (gm_o G q) = min (m2 21 (gm_o G q)) (gm_lr G (m2 21) q 0) := if_pos rfl
          omega
        · have y3 := hq q q0 (by omega) q2 z1 z2
          have y4 := a3 (gm_o G q)
          omega
      · show (30 - (r + 1)).toNat < (30 - r).toNat
        omega
    · refine ⟨⟨by omega, by omega⟩, ⟨by omega, by omega, hx2, hL2, hs2, ?_⟩, by show (10 - (v + 1)).toNat < (10 - v).toNat; omega⟩
      by_cases e : ∀ i, 0 ≤ i → i < gm_N G → m1 21 i = S i
      · have : gct (fun i => decide (m2 21 i = S i)) (gm_N G).toNat ≤ gct (fun i => decide (m2 21 i = S i)) (gm_N G).toNat := Nat.le_refl _
        have al : gct (fun _ => true) (gm_N G).toNat ≤ gct (fun i => decide (m2 21 i = S i)) (gm_N G).toNat := by
          refine gct_mono _ (fun i i0 i1 _ => decide_eq_true ?_)
          have w1 := hm i i0 (by omega)
          have w2 := ge _ hs2 i i0 (by omega)
          have w3 := e i i0 (by omega)
          omega
        have : ∀ n : Nat, gct (fun _ => true) n = n := by
          intro n
          induction n with
          | zero => rfl
          | succ k ih =>
            unfold gct
            rw [ih]
            rfl
        have := this (gm_N G).toNat
        omega
      · have ⟨i, hi⟩ := Classical.not_forall.mp e
        have i0 : 0 ≤ i := Classical.byContradiction (fun z => hi (fun a => absurd a z))
        have i1 : i < gm_N G := Classical.byContradiction (fun z => hi (fun _ a => absurd a z))
        have i2 : m1 21 i ≠ S i := fun z => hi (fun _ _ => z)
        obtain ⟨q, q0, q1, q2, q3, q4⟩ := gm_L_step hG s1 s2 s3 hL (ge _ hs) i0 i1 i2
        have y1 := hG.2.2.2.2.1 q q0 q1
        have y2 := hq q q0 (by omega) q1 q3 q4
        have y5 := y1.2.1
        have := gct_lt (p := fun i => decide (m1 21 i = S i)) (q := fun i => decide (m2 21 i = S i)) (gm_N G).toNat (fun i i0 i1 z => decide_eq_true (by
          have w1 := hm i i0 (by omega)
          have w2 := ge _ hs2 i i0 (by omega)
          have w3 := of_decide_eq_true z
          omega)) (gm_o G q) y1.1 (by omega) (decide_eq_true y2) (decide_eq_false q2)
        omega
  · have fin : ∀ i, 0 ≤ i → i < gm_N G → m1 21 i = S i := fun i i0 i1 => of_decide_eq_true (gct_full (p := fun i => decide (m1 21 i = S i)) (gm_N G).toNat (by omega) i i0 (by omega))
    have cl : gm_Lcl G (m1 21) := by
      intro r r0 r1
      obtain ⟨p1, p2, p3, p4, p5⟩ := hG.2.2.2.2.1 r r0 r1
      rw [fin _ p1 p2]
      exact Int.le_trans (s2 r r0 r1) (gm_lr_mono hG r0 r1 (Int.le_refl _) (ge _ hs))
    have e21 : ∀ v, (gh_u m1 20 2 v) 21 = m1 21 := fun v => by
      funext j
      exact gh_u_a (by decide)
    refine ⟨fun n m2 => 0 ≤ n ∧ n ≤ gm_N G ∧ gm_lx m m2 ∧ m2 21 = m1 21 ∧ gbs (gm_N G).toNat (m2 20 2) ∧ ∀ i, 0 ≤ i → i < gm_N G → (gb (m2 20 2) i ↔ i < n ∧ m1 21 i < 16777216), fun n _ => (10 - n).toNat, ⟨Int.le_refl _, by omega, gm_lx_20 hx, e21 0, ?_, ?_⟩, ?_⟩
    · rw [gh_u_s]
      exact gbs_0 _
    · intro i i0 i1
      rw [gh_u_s]
      exact ⟨fun z => absurd z (gb_0 i), fun z => by omega⟩
    rintro n m2 ⟨n0, n1, hx2, e2, hb, hi⟩
    unfold f_Facts_findLeast_85
    rw [(gm_lx_C hx2 hC).1]
    refine ⟨fun c2 => ⟨n0, by omega, fun m3 => gm_lx m m3 ∧ m3 21 = m1 21 ∧ gbs (gm_N G).toNat (m3 20 2) ∧ ∀ i, 0 ≤ i → i < gm_N G → (gb (m3 20 2) i ↔ i < n + 1 ∧ m1 21 i < 16777216), ?_, fun c3 => ?_, fun c3 => ?_⟩, fun c2 => ?_⟩
    · rintro m3 ⟨j1, j2, j3, j4⟩
      exact ⟨⟨by omega, by omega⟩, ⟨by omega, by omega, j1, j2, j3, j4⟩, by show (10 - (n + 1)).toNat < (10 - n).toNat; omega⟩
    · rw [e2] at c3
      have b1 : gbs (gm_N G).toNat (gh_ishl_f 1 n) := gbs_one n0 (by omega) (by omega)
      refine ⟨gm_lx_20 hx2, ?_, ?_, fun i i0 i1 => ?_⟩
      · rw [← e2]
        funext j
        exact gh_u_a (by decide)
      · rw [gh_u_s]
        exact gbs_or (by omega) hb b1
      · rw [gh_u_s, gb_ior (by omega) hb b1, gb_ishl1 n0 (by omega) i0, hi i i0 i1]
        constructor
        · rintro (z | rfl)
          · exact ⟨by omega, z.2⟩
          · exact ⟨by omega, c3⟩
        · rintro ⟨z1, z2⟩
          by_cases e : i = n
          · exact Or.inr e
          · exact Or.inl ⟨by omega, z2⟩
    · rw [e2] at c3
      refine ⟨hx2, e2, hb, fun i i0 i1 => ?_⟩
      rw [hi i i0 i1]
      constructor
      · rintro ⟨z1, z2⟩
        exact ⟨by omega, z2⟩
      · rintro ⟨z1, z2⟩
        by_cases e : i = n
        · subst e
          exact absurd z2 c3
        · exact ⟨by omega, z2⟩
    · refine h m2 hx2 ?_ ?_ ?_ hb (fun i i0 i1 => ?_)
      · rw [e2]
        exact hL
      · rw [e2]
        exact cl
      · rw [e2]
        exact hs
      · rw [hi i i0 i1, e2]
        exact ⟨fun z => z.2, fun z => ⟨by omega, z⟩⟩

