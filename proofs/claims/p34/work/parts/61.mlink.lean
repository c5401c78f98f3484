/-! LEAST: the class's numbers (with 2^24 for none) and the model's (with 10^9) -/
theorem gb_ex (P : Int → Prop) : ∀ n : Nat, n ≤ 30 → ∃ Z, gbs n Z ∧ ∀ i : Int, 0 ≤ i → i < n → (gb Z i ↔ P i)
  | 0, _ => ⟨0, gbs_0 _, fun i a b => by omega⟩
  | k + 1, h => by
    obtain ⟨Z, z1, z2⟩ := gb_ex P k (by omega)
    have z3 : gbs (k + 1) Z := gbs_le z1 (by omega)
    have b1 : gbs (k + 1) (gh_ishl_f 1 k) := gbs_one (by omega) (by omega) (by omega)
    by_cases c : P k
    · refine ⟨gh_ior_f Z (gh_ishl_f 1 k), gbs_or (by omega) z3 b1, fun i i0 i1 => ?_⟩
      rw [gb_ior (by omega) z3 b1, gb_ishl1 (by omega) (by omega) i0]
      by_cases e : i = k
      · subst e
        exact ⟨fun _ => c, fun _ => Or.inr rfl⟩
      · rw [z2 i i0 (by omega)]
        exact ⟨fun z => z.elim id (fun y => absurd y e), Or.inl⟩
    · refine ⟨Z, z3, fun i i0 i1 => ?_⟩
      by_cases e : i = k
      · subst e
        exact ⟨fun z => absurd (gb_lt z1 i0 z) (by omega), fun z => absurd z c⟩
      · exact z2 i i0 (by omega)
def gq_bit (v c : Int) : Int := ((v.toNat.testBit c.toNat).toNat : Int)
theorem gq_bit_ne {v c : Int} : gq_bit v c ≠ 0 ↔ gb v c := by
  unfold gq_bit gb
  cases v.toNat.testBit c.toNat <;> decide
theorem gq_bit_01 {v c : Int} : gq_bit v c = 0 ∨ gq_bit v c = 1 := by
  unfold gq_bit
  cases v.toNat.testBit c.toNat <;> decide
theorem gm_ls_up {G : gm_G} {L : Int → Int} {r : Int} {B : Int} : ∀ (k : Nat) (d : Int), (∀ e, d ≤ e → e < d + k → gm_lv G L r e ≤ B) → gm_ls G L r d k ≤ B * k
  | 0, d, _ => by unfold gm_ls; omega
  | k + 1, d, h => by
    have h1 := gm_ls_up (L := L) (B := B) k (d + 1) (fun e a b => h e (by omega) (by omega))
    have h2 := h d (Int.le_refl _) (by omega)
    have h3 : B * ((k + 1 : Nat) : Int) = B * k + B := by rw [Int.natCast_add, Int.mul_add]; simp
    unfold gm_ls
    rw [h3]
    omega
theorem gm_ls_lo {G : gm_G} {L : Int → Int} {r e : Int} : ∀ (k : Nat) (d : Int), (∀ e, d ≤ e → e < d + k → 0 ≤ gm_lv G L r e) → d ≤ e → e < d + k → gm_lv G L r e ≤ gm_ls G L r d k ∧ 0 ≤ gm_ls G L r d k
  | 0, d, _, a, b => by omega
  | k + 1, d, h, a, b => by
    have h2 := h d (Int.le_refl _) (by omega)
    unfold gm_ls
    by_cases c : e = d
    · subst c
      by_cases q : k = 0
      · subst q
        unfold gm_ls
        omega
      · have h1 := (gm_ls_lo (e := e + 1) k (e + 1) (fun e a b => h e (by omega) (by omega)) (by omega) (by omega)).2
        omega
    · have h1 := gm_ls_lo (e := e) k (d + 1) (fun e a b => h e (by omega) (by omega)) (by omega) (by omega)
      omega
theorem gm_ls_all {G : gm_G} {L : Int → Int} {r : Int} : ∀ (k : Nat) (d : Int), (∀ e, d ≤ e → e < d + k → 0 ≤ gm_lv G L r e) → 0 ≤ gm_ls G L r d k
  | 0, _, _ => Int.le_refl _
  | k + 1, d, h => by
    have h1 := gm_ls_all k (d + 1) (fun e a b => h e (by omega) (by omega))
    have h2 := h d (Int.le_refl _) (by omega)
    unfold gm_ls
    omega
theorem gm_E_L {G : gm_G} (hG : gm_ok G) {E : Int} {S : Int → Int} (hE : gbs (gm_N G).toNat E) (e1 : gm_Ecl G E) (e2 : gm_Eso G E) (s1 : gm_Lr G S) (s2 : gm_Lcl G S) (s3 : gm_Lso G S) {i : Int} (i0 : 0 ≤ i) (i1 : i < gm_N G) : gb E i ↔ S i = 0 := by
  have hN := hG.2.1
  constructor
  · intro hi
    obtain ⟨Z, z1, z2⟩ := gb_ex (fun i => S i = 0) (gm_N G).toNat (by omega)
    refine (z2 i i0 (by omega)).mp (e2 Z (fun r r0 r1 hr => ?_) i i0 hi)
    obtain ⟨p1, p2, p3, p4, p5⟩ := hG.2.2.2.2.1 r r0 r1
    refine (z2 _ p1 (by omega)).mpr ?_
    have h1 := s2 r r0 r1
    have h2 : gm_ls G S r 0 (gm_s G r - 0).toNat ≤ 0 * ((gm_s G r - 0).toNat : Int) := gm_ls_up _ _ (fun e a b => by
      obtain ⟨q1, q2⟩ := hr e a (by omega) (by omega)
      have w := gm_n_rng hG r0 r1 (d := e) a (by omega)
      unfold gm_lv
      rw [if_neg q1, (z2 _ (by omega) (by omega)).mp q2]
      exact Int.le_refl _)
    have h3 := s1 _ p1 p2
    unfold gm_lr at h1
    omega
  · intro hi
    apply Classical.byContradiction
    intro no
    have zr : gm_Lr G (fun i => 1 - gq_bit E i) := fun j _ _ => by
      have := gq_bit_01 (v := E) (c := j)
      dsimp only
      omega
    have nn : ∀ r, 0 ≤ r → r < gm_R G → ∀ e, 0 ≤ e → e < gm_s G r → 0 ≤ gm_lv G (fun i => 1 - gq_bit E i) r e := fun r r0 r1 e a b => (gm_lv_nn hG (K := 16777216) (by decide) zr r0 r1 a b).1
    have := s3 (fun i => 1 - gq_bit E i) zr (fun r r0 r1 => ?_) i i0 i1
    · have h2 : 1 - gq_bit E i ≤ S i := this
      have h3 := gq_bit_01 (v := E) (c := i)
      have h4 : gq_bit E i = 0 := Classical.byContradiction (fun z => no (gq_bit_ne.mp z))
      omega
    · obtain ⟨p1, p2, p3, p4, p5⟩ := hG.2.2.2.2.1 r r0 r1
      show 1 - gq_bit E (gm_o G r) ≤ gm_lr G _ r 0
      unfold gm_lr
      have h0 := gm_ls_all (gm_s G r - 0).toNat 0 (fun e a b => nn r r0 r1 e a (by omega))
      by_cases c : gb E (gm_o G r)
      · have h3 := gq_bit_01 (v := E) (c := gm_o G r)
        have h4 := gq_bit_ne.mpr c
        omega
      · have h3 : gq_bit E (gm_o G r) = 0 := Classical.byContradiction (fun z => c (gq_bit_ne.mp z))
        have ⟨d, hd⟩ := Classical.not_forall.mp (fun z => c (e1 r r0 r1 z))
        have d0 : 0 ≤ d := Classical.byContradiction (fun z => hd (fun a => absurd a z))
        have d1 : d < gm_s G r := Classical.byContradiction (fun z => hd (fun _ a => absurd a z))
        have d2 : ¬ (gm_n G r d ≠ -1 ∧ gb E (gm_n G r d)) := fun z => hd (fun _ _ _ => z)
        have h1 := (gm_ls_lo (e := d) (gm_s G r - 0).toNat 0 (fun e a b => nn r r0 r1 e a (by omega)) d0 (by omega)).1
        have h2 : gm_lv G (fun i => 1 - gq_bit E i) r d = 1 := by
          unfold gm_lv
          by_cases y : gm_n G r d = -1
          · rw [if_pos y]
          · have h5 : gq_bit E (gm_n G r d) = 0 := Classical.byContradiction (fun z => d2 ⟨y, gq_bit_ne.mp z⟩)
            rw [if_neg y]
            show 1 - gq_bit E (gm_n G r d) = 1
            omega
        omega
theorem gm_L_bd1 {G : gm_G} (hG : gm_ok G) {S : Int → Int} (s1 : gm_Lr G S) (s2 : gm_Lcl G S) (s3 : gm_Lso G S) {B : Int} (hB : 1 ≤ B) (hB2 : B ≤ 16384) {i : Int} (i0 : 0 ≤ i) (i1 : i < gm_N G) (i2 : ¬ (S i ≤ B ∨ S i = 16777216)) : gct (fun i => decide (S i ≤ B ∨ S i = 16777216)) (gm_N G).toNat + 1 ≤ gct (fun i => decide (S i ≤ 4 * B ∨ S i = 16777216)) (gm_N G).toNat := by
  have hN := hG.2.1
  have lr : gm_Lr G (fun j => if S j ≤ B then S j else 16777216) := fun j j0 j1 => by
    have := s1 j j0 j1
    show 0 ≤ (if S j ≤ B then S j else 16777216) ∧ (if S j ≤ B then S j else 16777216) ≤ 16777216
    split <;> omega
  obtain ⟨r, r0, r1, r2, r3, r4⟩ := gm_L_step hG s1 s2 s3 lr (fun j j0 j1 => by
    have := s1 j j0 j1
    show S j ≤ (if S j ≤ B then S j else 16777216)
    split <;> omega) i0 i1 (by
    show (if S i ≤ B then S i else 16777216) ≠ S i
    rw [if_neg (fun z => i2 (Or.inl z))]
    exact fun z => i2 (Or.inr z.symm))
  obtain ⟨p1, p2, p3, p4, p5⟩ := hG.2.2.2.2.1 r r0 r1
  have r5 : ¬ (S (gm_o G r) ≤ B) := fun z => r2 (if_pos z)
  have r6 : S (gm_o G r) ≠ 16777216 := fun z => r2 ((if_neg r5).trans z.symm)
  have q1 := s1 _ p1 p2
  have nn : ∀ e, 0 ≤ e → e < gm_s G r → 0 ≤ gm_lv G S r e := fun e a b => (gm_lv_nn hG (K := 16777216) (by decide) s1 r0 r1 a b).1
  have up : gm_ls G S r 0 (gm_s G r - 0).toNat ≤ B * ((gm_s G r - 0).toNat : Int) := gm_ls_up _ _ (fun e a b => by
    have l1 := (gm_ls_lo (e := e) (gm_s G r - 0).toNat 0 (fun e a b => nn e a (by omega)) a (by omega)).1
    unfold gm_lr at r3
    by_cases c : gm_n G r e = -1
    · unfold gm_lv
      rw [if_pos c]
      exact hB
    · have c2 : (if S (gm_n G r e) ≤ B then S (gm_n G r e) else 16777216) = S (gm_n G r e) := r4 e a (by omega) c
      unfold gm_lv at l1 ⊢
      rw [if_neg c] at l1 ⊢
      by_cases c3 : S (gm_n G r e) ≤ B
      · exact c3
      · rw [if_neg c3] at c2
        omega)
  have up2 : B * ((gm_s G r - 0).toNat : Int) ≤ B * 4 := Int.mul_le_mul_of_nonneg_left (by omega) (by omega)
  have r7 : S (gm_o G r) ≤ 4 * B := by
    unfold gm_lr at r3
    omega
  exact gct_lt (p := fun i => decide (S i ≤ B ∨ S i = 16777216)) (q := fun i => decide (S i ≤ 4 * B ∨ S i = 16777216)) (gm_N G).toNat (fun j _ _ z => decide_eq_true (by
    have := of_decide_eq_true z
    omega)) (gm_o G r) p1 (by omega) (decide_eq_true (Or.inl r7)) (decide_eq_false (fun z => z.elim r5 r6))
theorem gm_L_bd {G : gm_G} (hG : gm_ok G) {S : Int → Int} (s1 : gm_Lr G S) (s2 : gm_Lcl G S) (s3 : gm_Lso G S) {i : Int} (i0 : 0 ≤ i) (i1 : i < gm_N G) (i2 : S i < 16777216) : S i ≤ 65536 := by
  have hN := hG.2.1
  apply Classical.byContradiction
  intro no
  have st : ∀ B, 1 ≤ B → B ≤ 16384 → gct (fun i => decide (S i ≤ B ∨ S i = 16777216)) (gm_N G).toNat + 1 ≤ gct (fun i => decide (S i ≤ 4 * B ∨ S i = 16777216)) (gm_N G).toNat := fun B b1 b2 => gm_L_bd1 hG s1 s2 s3 b1 b2 i0 i1 (by omega)
  have h0 := st 1 (by decide) (by decide)
  have h1 := st 4 (by decide) (by decide)
  have h2 := st 16 (by decide) (by decide)
  have h3 := st 64 (by decide) (by decide)
  have h4 := st 256 (by decide) (by decide)
  have h5 := st 1024 (by decide) (by decide)
  have h6 := st 4096 (by decide) (by decide)
  have h7 := st 16384 (by decide) (by decide)
  have e1 : (4 : Int) * 1 = 4 := rfl
  have e2 : (4 : Int) * 4 = 16 := rfl
  have e3 : (4 : Int) * 16 = 64 := rfl
  have e4 : (4 : Int) * 64 = 256 := rfl
  have e5 : (4 : Int) * 256 = 1024 := rfl
  have e6 : (4 : Int) * 1024 = 4096 := rfl
  have e7 : (4 : Int) * 4096 = 16384 := rfl
  have e8 : (4 : Int) * 16384 = 65536 := rfl
  rw [e1] at h0
  rw [e2] at h1
  rw [e3] at h2
  rw [e4] at h3
  rw [e5] at h4
  rw [e6] at h5
  rw [e7] at h6
  rw [e8] at h7
  have := of_decide_eq_true (gct_full (p := fun i => decide (S i ≤ 65536 ∨ S i = 16777216)) (gm_N G).toNat (by omega) i i0 (by omega))
  omega
/-- a row of the class's numbers: they are small, or one is none -/
theorem gm_row_cases {G : gm_G} (hG : gm_ok G) {S : Int → Int} (s1 : gm_Lr G S) (s2 : gm_Lcl G S) (s3 : gm_Lso G S) {r a : Int} (r0 : 0 ≤ r) (r1 : r < gm_R G) (a0 : 0 ≤ a) : ((∀ e, a ≤ e → e < gm_s G r → gm_n G r e ≠ -1 → S (gm_n G r e) < 16777216) ∧ 0 ≤ gm_ls G S r a (gm_s G r - a).toNat ∧ gm_ls G S r a (gm_s G r - a).toNat ≤ 262144) ∨ ((∃ e, a ≤ e ∧ e < gm_s G r ∧ gm_n G r e ≠ -1 ∧ S (gm_n G r e) = 16777216) ∧ 16777216 ≤ gm_ls G S r a (gm_s G r - a).toNat) := by
  obtain ⟨p1, p2, p3, p4, p5⟩ := hG.2.2.2.2.1 r r0 r1
  have nn : ∀ e, 0 ≤ e → e < gm_s G r → 0 ≤ gm_lv G S r e := fun e a b => (gm_lv_nn hG (K := 16777216) (by decide) s1 r0 r1 a b).1
  by_cases c : ∃ e, a ≤ e ∧ e < gm_s G r ∧ gm_n G r e ≠ -1 ∧ S (gm_n G r e) = 16777216
  · right
    refine ⟨c, ?_⟩
    obtain ⟨e, h1, h2, h3, h4⟩ := c
    have := (gm_ls_lo (e := e) (gm_s G r - a).toNat a (fun e a b => nn e (by omega) (by omega)) h1 (by omega)).1
    unfold gm_lv at this
    rw [if_neg h3] at this
    omega
  · left
    have all : ∀ e, a ≤ e → e < gm_s G r → gm_n G r e ≠ -1 → S (gm_n G r e) < 16777216 := fun e h1 h2 h3 => by
      have w := gm_n_rng hG r0 r1 (d := e) (by omega) h2
      have w2 := s1 (gm_n G r e) (by omega) (by omega)
      have w3 : S (gm_n G r e) ≠ 16777216 := fun z => c ⟨e, h1, h2, h3, z⟩
      omega
    by_cases q : a ≤ gm_s G r
    · refine ⟨all, gm_ls_all _ _ (fun e a b => nn e (by omega) (by omega)), ?_⟩
      have up : gm_ls G S r a (gm_s G r - a).toNat ≤ 65536 * ((gm_s G r - a).toNat : Int) := gm_ls_up _ _ (fun e h1 h2 => by
        unfold gm_lv
        by_cases c : gm_n G r e = -1
        · rw [if_pos c]
          omega
        · have w := gm_n_rng hG r0 r1 (d := e) (by omega) (by omega)
          rw [if_neg c]
          exact gm_L_bd hG s1 s2 s3 (by omega) (by omega) (all e h1 (by omega) c))
      omega
    · refine ⟨all, ?_⟩
      rw [gm_ls_E (by omega)]
      omega
