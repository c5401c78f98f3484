/-! LEAST: that the last numbers are, and the row -/
def gm_sum (L : Int → Int) : Nat → Nat
  | 0 => 0
  | k + 1 => gm_sum L k + (L k).toNat
theorem gm_sum_le {L Z : Int → Int} : ∀ n : Nat, (∀ i : Int, 0 ≤ i → i < n → L i ≤ Z i) → gm_sum L n ≤ gm_sum Z n
  | 0, _ => Nat.le_refl _
  | k + 1, h => by
    have h1 := gm_sum_le (L := L) (Z := Z) k (fun i a b => h i a (by omega))
    have h2 := h k (by omega) (by omega)
    unfold gm_sum
    omega
theorem gm_sum_lt {L Z : Int → Int} : ∀ n : Nat, (∀ i : Int, 0 ≤ i → i < n → L i ≤ Z i) → ∀ i : Int, 0 ≤ i → i < n → 0 ≤ L i → L i < Z i → gm_sum L n < gm_sum Z n
  | 0, _, i, a, b, _, _ => by omega
  | k + 1, h, i, a, b, c, d => by
    have h2 := h k (by omega) (by omega)
    unfold gm_sum
    by_cases e : i < k
    · have h1 := gm_sum_lt (L := L) (Z := Z) k (fun i a b => h i a (by omega)) i a e c d
      omega
    · have h1 := gm_sum_le (L := L) (Z := Z) k (fun i a b => h i a (by omega))
      have e : i = (k : Int) := by omega
      subst e
      omega
/-- numbers with one of them made less -/
def gm_upd (L : Int → Int) (n v : Int) : Int → Int := fun i => if i = n then v else L i
theorem gm_lr_0 {G : gm_G} (hG : gm_ok G) {L : Int → Int} (hL : gm_Lr G L) {r a : Int} (r0 : 0 ≤ r) (r1 : r < gm_R G) (a0 : 0 ≤ a) : 0 ≤ gm_lr G L r a ∧ gm_lr G L r a ≤ 16777216 := by
  unfold gm_lr
  by_cases c : a ≤ gm_s G r
  · have h1 := gm_ls_0 hG hL r0 r1 (gm_s G r - a).toNat a a0 (by omega)
    omega
  · have e : (gm_s G r - a).toNat = 0 := by omega
    rw [e]
    show 0 ≤ min (0 : Int) 16777216 ∧ min (0 : Int) 16777216 ≤ 16777216
    omega
/-- one rule more -/
theorem gm_L_add {G : gm_G} (hG : gm_ok G) {L : Int → Int} (h1 : gm_Lr G L) (h2 : gm_Lso G L) {r : Int} (r0 : 0 ≤ r) (r1 : r < gm_R G) : gm_Lr G (gm_upd L (gm_o G r) (min (L (gm_o G r)) (gm_lr G L r 0))) ∧ gm_Lso G (gm_upd L (gm_o G r) (min (L (gm_o G r)) (gm_lr G L r 0))) ∧ ∀ i, gm_upd L (gm_o G r) (min (L (gm_o G r)) (gm_lr G L r 0)) i ≤ L i := by
  obtain ⟨p1, p2, p3, p4, p5⟩ := hG.2.2.2.2.1 r r0 r1
  have q := gm_lr_0 hG h1 r0 r1 (Int.le_refl 0)
  have q2 := h1 _ p1 p2
  refine ⟨fun i i0 i1 => ?_, fun Z z1 z2 i i0 i1 => ?_, fun i => ?_⟩
  · have q3 := h1 i i0 i1
    unfold gm_upd
    split <;> omega
  · have q3 := h2 Z z1 z2 i i0 i1
    unfold gm_upd
    split
    · next e =>
      subst e
      have q4 := z2 r r0 r1
      have q5 := gm_lr_mono hG r0 r1 (Int.le_refl 0) (h2 Z z1 z2)
      omega
    · exact q3
  · unfold gm_upd
    split
    · next e =>
      subst e
      omega
    · exact Int.le_refl _
theorem gm_L_ex0 {G : gm_G} (hG : gm_ok G) : ∀ (k : Nat) (L : Int → Int), gm_sum L (gm_N G).toNat ≤ k → gm_Lr G L → gm_Lso G L → ∃ S, gm_Lr G S ∧ gm_Lcl G S ∧ gm_Lso G S := by
  intro k
  induction k with
  | zero =>
    intro L hk h1 h2
    by_cases c : gm_Lcl G L
    · exact ⟨L, h1, c, h2⟩
    · have ⟨r, hr⟩ := Classical.not_forall.mp c
      have r0 : 0 ≤ r := Classical.byContradiction (fun z => hr (fun a => absurd a z))
      have r1 : r < gm_R G := Classical.byContradiction (fun z => hr (fun _ a => absurd a z))
      have r2 : ¬ L (gm_o G r) ≤ gm_lr G L r 0 := fun z => hr (fun _ _ => z)
      obtain ⟨p1, p2, p3, p4, p5⟩ := hG.2.2.2.2.1 r r0 r1
      obtain ⟨a1, a2, a3⟩ := gm_L_add hG h1 h2 r0 r1
      have q := a1 _ p1 p2
      have e : gm_upd L (gm_o G r) (min (L (gm_o G r)) (gm_lr G L r 0)) (gm_o G r) = min (L (gm_o G r)) (gm_lr G L r 0) := if_pos rfl
      have := gm_sum_lt (gm_N G).toNat (fun i _ _ => a3 i) (gm_o G r) p1 (by omega) q.1 (by omega)
      omega
  | succ k ih =>
    intro L hk h1 h2
    by_cases c : gm_Lcl G L
    · exact ⟨L, h1, c, h2⟩
    · have ⟨r, hr⟩ := Classical.not_forall.mp c
      have r0 : 0 ≤ r := Classical.byContradiction (fun z => hr (fun a => absurd a z))
      have r1 : r < gm_R G := Classical.byContradiction (fun z => hr (fun _ a => absurd a z))
      have r2 : ¬ L (gm_o G r) ≤ gm_lr G L r 0 := fun z => hr (fun _ _ => z)
      obtain ⟨p1, p2, p3, p4, p5⟩ := hG.2.2.2.2.1 r r0 r1
      obtain ⟨a1, a2, a3⟩ := gm_L_add hG h1 h2 r0 r1
      have q := a1 _ p1 p2
      have e : gm_upd L (gm_o G r) (min (L (gm_o G r)) (gm_lr G L r 0)) (gm_o G r) = min (L (gm_o G r)) (gm_lr G L r 0) := if_pos rfl
      have := gm_sum_lt (gm_N G).toNat (fun i _ _ => a3 i) (gm_o G r) p1 (by omega) q.1 (by omega)
      exact ih _ (by omega) a1 a2
theorem gm_L_far {G : gm_G} : gm_Lr G (fun _ => 16777216) ∧ gm_Lso G (fun _ => 16777216) := ⟨fun _ _ _ => ⟨by show (0 : Int) ≤ 16777216; decide, Int.le_refl _⟩, fun Z z1 _ i i0 i1 => (z1 i i0 i1).2⟩
theorem gm_L_ex {G : gm_G} (hG : gm_ok G) : ∃ S, gm_Lr G S ∧ gm_Lcl G S ∧ gm_Lso G S := gm_L_ex0 hG _ _ (Nat.le_refl _) gm_L_far.1 gm_L_far.2
theorem gm_L_uniq {G : gm_G} {L Z : Int → Int} (l1 : gm_Lr G L) (l2 : gm_Lcl G L) (l3 : gm_Lso G L) (z1 : gm_Lr G Z) (z2 : gm_Lcl G Z) (z3 : gm_Lso G Z) {i : Int} (i0 : 0 ≤ i) (i1 : i < gm_N G) : L i = Z i := Int.le_antisymm (z3 L l1 l2 i i0 i1) (l3 Z z1 z2 i i0 i1)
theorem gm_leastOfRow {m : gh_M} {G : gm_G} {Q : Int → Prop} (hG : gm_ok G) (hC : gm_C m G) (hL : gm_Lr G (m 21)) {r a : Int} (r0 : 0 ≤ r) (r1 : r < gm_R G) (a0 : 0 ≤ a) (a1 : a ≤ 5) (h : Q (gm_lr G (m 21) r a)) : w_Facts_leastOfRow r a m Q := by
  obtain ⟨p1, p2, p3, p4, p5⟩ := hG.2.2.2.2.1 r r0 r1
  have hR := hG.2.2.2.1
  have hN := hG.2.1
  have e2 := (hC.2.2 r r0 r1).2.1
  refine ⟨fun v d => a ≤ d ∧ d ≤ 5 ∧ 0 ≤ v ∧ v ≤ 16777216 * d ∧ v + gm_ls G (m 21) r d (gm_s G r - d).toNat = gm_ls G (m 21) r a (gm_s G r - a).toNat, fun _ d => (10 - d).toNat, ⟨Int.le_refl _, a1, Int.le_refl _, by omega, by omega⟩, ?_⟩
  rintro v d ⟨d0, d1, v0, v1, hv⟩
  unfold f_Facts_leastOfRow_5
  rw [e2]
  refine ⟨r0, by omega, fun c => ?_, fun c => ?_⟩
  · obtain ⟨k1, x1⟩ := gm_nameAt hG hC r0 r1 (d := d) (by omega) c
    refine ⟨k1, ?_⟩
    rintro _ rfl
    rw [x1]
    have hn := gm_n_rng hG r0 r1 (d := d) (by omega) c
    have hs : gm_ls G (m 21) r d (gm_s G r - d).toNat = gm_lv G (m 21) r d + gm_ls G (m 21) r (d + 1) (gm_s G r - (d + 1)).toNat := by
      have e : (gm_s G r - d).toNat = (gm_s G r - (d + 1)).toNat + 1 := by omega
      rw [e]
      rfl
    have hb : 0 ≤ gm_lv G (m 21) r d ∧ gm_lv G (m 21) r d ≤ 16777216 := by
      unfold gm_lv
      rcases hn with e | ⟨e1, e2⟩
      · rw [if_pos e]
        omega
      · rw [if_neg (by omega)]
        exact hL _ e1 e2
    have hl : (if gm_n G r d = -1 then 1 else m 21 (gm_n G r d)) = gm_lv G (m 21) r d := rfl
    rw [hl]
    refine ⟨fun _ => ⟨by omega, by omega⟩, ⟨by omega, by omega⟩, ?_⟩
    rintro _ rfl
    refine ⟨⟨by omega, by omega⟩, ⟨by omega, by omega, by omega, by omega, by omega⟩, ?_⟩
    show (10 - (d + 1)).toNat < (10 - d).toNat
    omega
  · have e : (gm_s G r - d).toNat = 0 := by omega
    rw [e] at hv
    have e3 : v = gm_ls G (m 21) r a (gm_s G r - a).toNat := by
      rw [← hv]
      exact (Int.add_zero v).symm
    rw [e3]
    exact h

