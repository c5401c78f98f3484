/-- what a name makes is not shorter than its least -/
theorem gt_M_least {G : gm_G} (hG : gm_ok G) {z : Int} {t : Int → Int} {S : Int → Int} (hS : gm_Lr G S) (s2 : gm_Lcl G S) {n i j : Int} (h : gt_M G z t n i j) : S n ≤ j - i := by
  have key : i ≤ j ∧ j ≤ z ∧ 0 ≤ n ∧ n < gm_N G ∧ S n ≤ j - i := by
    refine h (fun n i j => i ≤ j ∧ j ≤ z ∧ 0 ≤ n ∧ n < gm_N G ∧ S n ≤ j - i) (fun r i j r0 r1 i0 i1 w => ?_)
    obtain ⟨p1, p2, p3, p4, p5⟩ := hG.2.2.2.2.1 r r0 r1
    have st : ∀ (d : Nat) (q : Int), (d : Int) ≤ gm_s G r → gt_rw (gt_pm G z t (fun n i j => i ≤ j ∧ j ≤ z ∧ 0 ≤ n ∧ n < gm_N G ∧ S n ≤ j - i) r) d i q → i ≤ q ∧ q ≤ z ∧ gm_ls G S r 0 (gm_s G r - 0).toNat ≤ (q - i) + gm_ls G S r d (gm_s G r - d).toNat := by
      intro d
      induction d with
      | zero =>
        intro q _ e
        have e2 : i = q := e
        rw [← e2]
        refine ⟨by omega, i1, ?_⟩
        show gm_ls G S r 0 (gm_s G r - 0).toNat ≤ (i - i) + gm_ls G S r 0 (gm_s G r - 0).toNat
        omega
      | succ d ih =>
        rintro q dq ⟨p, w1, w2⟩
        obtain ⟨h1, h2, h3⟩ := ih p (by omega) w1
        rw [gm_ls_S (by omega : (d : Int) < gm_s G r)] at h3
        have e : ((d + 1 : Nat) : Int) = (d : Int) + 1 := by omega
        rw [e]
        rcases w2 with ⟨a0, a1, a2, _⟩ | ⟨a0, a⟩
        · have lv : gm_lv G S r d = 1 := if_pos a0
          exact ⟨by omega, by omega, by omega⟩
        · have lv : gm_lv G S r d = S (gm_n G r d) := if_neg a0
          exact ⟨by omega, by omega, by omega⟩
    obtain ⟨h1, h2, h3⟩ := st (gm_s G r).toNat j (by omega) w
    have e : (((gm_s G r).toNat : Nat) : Int) = gm_s G r := by omega
    rw [e, gm_ls_E (Int.le_refl _)] at h3
    have h4 := s2 r r0 r1
    unfold gm_lr at h4
    exact ⟨h1, h2, p1, p2, by omega⟩
  exact key.2.2.2.2
/-- the same of beginnings of rows -/
theorem gt_row_least {G : gm_G} (hG : gm_ok G) {z : Int} {t : Int → Int} {S : Int → Int} (hS : gm_Lr G S) (s2 : gm_Lcl G S) {r i : Int} (r0 : 0 ≤ r) (r1 : r < gm_R G) : ∀ (d : Nat) (q : Int), (d : Int) ≤ gm_s G r → gt_rw (gt_pm G z t (gt_M G z t) r) d i q → gm_ls G S r 0 (gm_s G r - 0).toNat ≤ (q - i) + gm_ls G S r d (gm_s G r - d).toNat := by
  intro d
  induction d with
  | zero =>
    intro q _ e
    have e2 : i = q := e
    rw [← e2]
    show gm_ls G S r 0 (gm_s G r - 0).toNat ≤ (i - i) + gm_ls G S r 0 (gm_s G r - 0).toNat
    omega
  | succ d ih =>
    rintro q dq ⟨p, w1, w2⟩
    have h3 := ih p (by omega) w1
    rw [gm_ls_S (by omega : (d : Int) < gm_s G r)] at h3
    have e : ((d + 1 : Nat) : Int) = (d : Int) + 1 := by omega
    rw [e]
    rcases w2 with ⟨a0, a1, a2, _⟩ | ⟨a0, a⟩
    · have lv : gm_lv G S r d = 1 := if_pos a0
      omega
    · have lv : gm_lv G S r d = S (gm_n G r d) := if_neg a0
      have := gt_M_least hG hS s2 a
      omega
theorem gm_lr_S {G : gm_G} (hG : gm_ok G) {S : Int → Int} (hS : gm_Lr G S) {r d : Int} (r0 : 0 ≤ r) (r1 : r < gm_R G) (d0 : 0 ≤ d) (d1 : d < gm_s G r) (hn : gm_n G r d ≠ -1) : gm_lr G S r d ≤ S (gm_n G r d) + gm_lr G S r (d + 1) := by
  have nn := gm_n_rng hG r0 r1 d0 d1
  have sb := hS (gm_n G r d) (by omega) (by omega)
  have lv : gm_lv G S r d = S (gm_n G r d) := if_neg hn
  unfold gm_lr
  rw [gm_ls_S d1, lv]
  omega
/-- three parts of a row, at most -/
theorem gm_lr_3 {G : gm_G} (hG : gm_ok G) {S : Int → Int} (s1 : gm_Lr G S) (s2 : gm_Lcl G S) (s3 : gm_Lso G S) {r d : Int} (r0 : 0 ≤ r) (r1 : r < gm_R G) (d0 : 1 ≤ d) (h : gm_lr G S r d < 16777216) : gm_lr G S r d ≤ 196608 := by
  obtain ⟨p1, p2, p3, p4, p5⟩ := hG.2.2.2.2.1 r r0 r1
  rcases gm_row_cases hG s1 s2 s3 r0 r1 (a := d) (by omega) with ⟨h1, h2, h3⟩ | ⟨h1, h2⟩
  · by_cases q : d ≤ gm_s G r
    · have up : gm_ls G S r d (gm_s G r - d).toNat ≤ 65536 * ((gm_s G r - d).toNat : Int) := gm_ls_up _ _ (fun e e0 e1 => by
        unfold gm_lv
        by_cases c : gm_n G r e = -1
        · rw [if_pos c]
          omega
        · have w := gm_n_rng hG r0 r1 (d := e) (by omega) (by omega)
          rw [if_neg c]
          exact gm_L_bd hG s1 s2 s3 (by omega) (by omega) (h1 e e0 (by omega) c))
      unfold gm_lr
      omega
    · unfold gm_lr
      rw [gm_ls_E (by omega)]
      omega
  · unfold gm_lr at h
    omega
/-- finite wanted numbers are small -/
theorem gw_bd {G : gm_G} (hG : gm_ok G) {z : Int} {t : Int → Int} {S : Int → Int} (s1 : gm_Lr G S) (s2 : gm_Lcl G S) (s3 : gm_Lso G S) {k : Int} {P : Int → Int → Int} (hP : gw_P G z t S k P) : ∀ (c : Nat) (i : Int), 0 ≤ i → i + c = k → ∀ n, 0 ≤ n → n < gm_N G → P n i < 16777216 → P n i ≤ gf_bnd 65536 196608 (8 * c) := by
  have hN := hG.2.1
  intro c
  induction c using Nat.strongRecOn with
  | _ c ih =>
    intro i i0 ik n n0 n1 hn
    by_cases c0 : c = 0
    · subst c0
      have e : i = k := by omega
      rw [e] at hn ⊢
      rw [hP.1 n n0 n1] at hn ⊢
      exact gm_L_bd hG s1 s2 s3 n0 n1 hn
    · have ik2 : i < k := by omega
      obtain ⟨f1, f2, f3⟩ := hP.2 i i0 ik2
      have later : ∀ n e, 0 ≤ n → n < gm_N G → i < e → e < k → 0 ≤ P n e ∧ P n e ≤ 16777216 := fun n e n0 n1 e0 e1 => (hP.2 e (by omega) e1).1 n n0 n1
      obtain ⟨sys, tri⟩ := gw_sys hG (z := z) (t := t) s1 ik2 (P := P) later
      have bs : 65536 ≤ gf_bnd 65536 196608 (8 * (c - 1)) := by
        have := gf_bnd_le (B := 65536) (C := 196608) (by decide) 0 (8 * (c - 1)) (Nat.zero_le _)
        exact this
      have fin := gf_bd sys tri f1 f2 f3 (B := gf_bnd 65536 196608 (8 * (c - 1))) (C := 196608) (by omega) (by decide) (fun B' hB r r0 r1 hl => ?_) n0 n1 hn
      · have add : ∀ (a b : Nat), gf_bnd (gf_bnd 65536 196608 a) 196608 b = gf_bnd 65536 196608 (a + b) := by
          intro a b
          induction b with
          | zero => rfl
          | succ b ihb =>
            show gf_bnd (gf_bnd 65536 196608 a) 196608 b + 196608 = gf_bnd 65536 196608 (a + b) + 196608
            rw [ihb]
        rw [add] at fin
        exact Int.le_trans fin (gf_bnd_le (by decide) _ _ (by omega))
      · rw [gw_F_eq (by omega)] at hl ⊢
        obtain ⟨a1, a2, a3, a4⟩ := gmn_sp (A := fun w => ∃ a, gw_In G z t k r i a ∧ w = gw_val G S k (fun n e => if e = i then (if P n i ≤ B' then P n i else 16777216) else P n e) r a) (K := 16777216) (by decide)
        rcases a3 with e | ⟨a, ⟨h1, h2, h3, h4, h5, h6⟩, e⟩
        · omega
        · have lr := gm_lr_0 hG s1 r0 r1 (a := a.1 + 1) (by omega)
          have l3 := gm_lr_3 hG s1 s2 s3 r0 r1 (d := a.1 + 1) (by omega)
          rw [e] at hl ⊢
          unfold gw_val at hl ⊢
          by_cases q : a.2 < k
          · have nn := gm_n_rng hG r0 r1 h1 h2
            have n2 := (h5 q).1
            rw [if_pos q] at hl ⊢
            dsimp only at hl ⊢
            by_cases q2 : a.2 = i
            · rw [if_pos q2] at hl ⊢
              by_cases q3 : P (gm_n G r a.1) i ≤ B'
              · have := (f1 (gm_n G r a.1) (by omega) (by omega)).1
                rw [if_pos q3] at hl ⊢
                dsimp only at this
                have := l3 (by omega)
                omega
              · rw [if_neg q3] at hl
                omega
            · rw [if_neg q2] at hl ⊢
              have lt := later (gm_n G r a.1) a.2 (by omega) (by omega) (by omega) q
              have c1 := ih (k - a.2).toNat (by omega) a.2 (by omega) (by omega) (gm_n G r a.1) (by omega) (by omega) (by omega)
              have c2 := gf_bnd_le (B := 65536) (C := 196608) (by decide) (8 * (k - a.2).toNat) (8 * (c - 1)) (by omega)
              have := l3 (by omega)
              omega
          · rw [if_neg q] at hl ⊢
            have := l3 (by omega)
            omega

