/-! THE LANGUAGE: what is wanted behind letters, what may come -/
theorem gj_inv {G : gm_G} {z : Int} {t : Int → Int} {n i j : Int} (h : gt_M G z t n i j) : ∃ r, 0 ≤ r ∧ r < gm_R G ∧ gm_o G r = n ∧ 0 ≤ i ∧ i ≤ z ∧ gt_row G z t (gt_M G z t) r (gm_s G r) i j := by
  have h2 := h (fun n i j => gt_M G z t n i j ∧ ∃ r, 0 ≤ r ∧ r < gm_R G ∧ gm_o G r = n ∧ 0 ≤ i ∧ i ≤ z ∧ gt_row G z t (gt_M G z t) r (gm_s G r) i j) (fun r i j r0 r1 i0 i1 w => by
    have w2 := gt_row_mono (B := gt_M G z t) (fun _ _ _ _ _ _ y => y.1) w
    exact ⟨gt_M_cl r i j r0 r1 i0 i1 w2, r, r0, r1, rfl, i0, i1, w2⟩)
  exact h2.2
/-- the least letters of the names, the useful rules -/
def gj_X (G : gm_G) (S : Int → Int) (U : Int → Prop) : Prop := gm_ok G ∧ gm_Lr G S ∧ gm_Lcl G S ∧ gm_Lso G S ∧ ∀ r, 0 ≤ r → r < gm_R G → (U r ↔ gm_lr G S r 0 < 16777216)
section G20
variable {G : gm_G} {S : Int → Int} {U : Int → Prop} {z : Int} {t : Int → Int}
theorem gj_ls_s {r d : Int} (d0 : 0 ≤ d) (d1 : d < gm_s G r) : gm_ls G S r d (gm_s G r - d).toNat = gm_lv G S r d + gm_ls G S r (d + 1) (gm_s G r - (d + 1)).toNat := by
  have e : (gm_s G r - d).toNat = (gm_s G r - (d + 1)).toNat + 1 := by omega
  rw [e]
  rfl
theorem gj_lv_nn (hG : gm_ok G) (s1 : gm_Lr G S) {r d : Int} (r0 : 0 ≤ r) (r1 : r < gm_R G) (d0 : 0 ≤ d) (d1 : d < gm_s G r) : 0 ≤ gm_lv G S r d := by
  unfold gm_lv
  by_cases c : gm_n G r d = -1
  · rw [if_pos c]
    decide
  · rw [if_neg c]
    rcases gm_p_n hG r0 r1 d0 d1 with w | w
    · exact (s1 _ w.2.2.1 w.2.2.2).1
    · exact absurd w.2.2 c
theorem gj_ls_nn (hG : gm_ok G) (s1 : gm_Lr G S) {r d : Int} (r0 : 0 ≤ r) (r1 : r < gm_R G) (d0 : 0 ≤ d) : 0 ≤ gm_ls G S r d (gm_s G r - d).toNat := by
  by_cases c : d ≤ gm_s G r
  · exact (gm_ls_0 hG s1 r0 r1 _ d d0 (by omega)).1
  · have e : (gm_s G r - d).toNat = 0 := by omega
    rw [e]
    exact Int.le_refl _
theorem gj_lr_nn (hG : gm_ok G) (s1 : gm_Lr G S) {r d : Int} (r0 : 0 ≤ r) (r1 : r < gm_R G) (d0 : 0 ≤ d) : 0 ≤ gm_lr G S r d := by
  have := gj_ls_nn hG s1 r0 r1 d0
  unfold gm_lr
  omega
theorem gj_lr_s (hG : gm_ok G) (s1 : gm_Lr G S) {r d : Int} (r0 : 0 ≤ r) (r1 : r < gm_R G) (d0 : 0 ≤ d) (d1 : d < gm_s G r) : gm_lr G S r (d + 1) ≤ gm_lr G S r d := by
  have a := gj_ls_s (S := S) d0 d1
  have b := gj_lv_nn hG s1 r0 r1 d0 d1
  unfold gm_lr
  omega
theorem gj_lr_le (hG : gm_ok G) (s1 : gm_Lr G S) {r : Int} (r0 : 0 ≤ r) (r1 : r < gm_R G) : ∀ d : Nat, (d : Int) ≤ gm_s G r → gm_lr G S r d ≤ gm_lr G S r 0
  | 0, _ => Int.le_refl _
  | d + 1, h => by
    have a := gj_lr_le hG s1 r0 r1 d (by omega)
    have b := gj_lr_s hG s1 r0 r1 (d := d) (by omega) (by omega)
    have e : (((d + 1 : Nat)) : Int) = (d : Int) + 1 := by omega
    rw [e]
    omega
theorem gj_lr_U (X : gj_X G S U) {r d : Int} (r0 : 0 ≤ r) (r1 : r < gm_R G) (d0 : 0 ≤ d) (d1 : d ≤ gm_s G r) (u : U r) : gm_lr G S r d < 16777216 := by
  have a := (X.2.2.2.2 r r0 r1).mp u
  have b := gj_lr_le X.1 X.2.1 r0 r1 d.toNat (by omega)
  have e : ((d.toNat : Nat) : Int) = d := by omega
  rw [e] at b
  omega
theorem gj_lr_end {r : Int} : gm_lr G S r (gm_s G r) = 0 := by
  unfold gm_lr
  have e : (gm_s G r - gm_s G r).toNat = 0 := by omega
  rw [e]
  show min (0 : Int) 16777216 = 0
  decide
/-- a name of a useful rule ends -/
theorem gj_ends (X : gj_X G S U) {r d : Int} (r0 : 0 ≤ r) (r1 : r < gm_R G) (d0 : 0 ≤ d) (d1 : d < gm_s G r) (hn : gm_n G r d ≠ -1) (u : U r) : S (gm_n G r d) < 16777216 := by
  have a := gj_lr_U X r0 r1 d0 (by omega) u
  have b := gj_ls_s (S := S) d0 d1
  have c := gj_ls_nn X.1 X.2.1 r0 r1 (d := d + 1) (by omega)
  unfold gm_lr at a
  unfold gm_lv at b
  rw [if_neg hn] at b
  omega
theorem gj_lt (X : gj_X G S U) (z8 : z ≤ 8) {n i j : Int} (h : gt_M G z t n i j) : S n < 16777216 := by
  have a := gt_M_least X.1 X.2.1 X.2.2.1 h
  have b := gt_M_rng X.1 h
  omega
/-- parts that make letters, and a rest that ends: the rule is useful -/
theorem gj_U_row (X : gj_X G S U) (z8 : z ≤ 8) {r d i j : Int} (r0 : 0 ≤ r) (r1 : r < gm_R G) (d0 : 0 ≤ d) (d1 : d ≤ gm_s G r) (i0 : 0 ≤ i) (i1 : i ≤ z) (h : gt_row G z t (gt_M G z t) r d i j) (l : gm_lr G S r d < 16777216) : U r := by
  refine (X.2.2.2.2 r r0 r1).mpr ?_
  by_cases c : d = 0
  · rw [c] at l
    exact l
  · have a := gm_lr_3 X.1 X.2.1 X.2.2.1 X.2.2.2.1 r0 r1 (by omega) l
    have b := gt_row_least X.1 X.2.1 X.2.2.1 (t := t) (z := z) (i := i) r0 r1 d.toNat j (by omega) h
    have e : ((d.toNat : Nat) : Int) = d := by omega
    rw [e] at b
    have rg := gt_row_M X.1 i1 h
    unfold gm_lr at a ⊢
    omega
theorem gj_U_A (X : gj_X G S U) (z8 : z ≤ 8) {r d i j : Int} (r0 : 0 ≤ r) (r1 : r < gm_R G) (d0 : 0 ≤ d) (d1 : d < gm_s G r) (i0 : 0 ≤ i) (i1 : i ≤ z) (h : gt_row G z t (gt_M G z t) r d i j) (hn : gm_n G r d ≠ -1) (sn : S (gm_n G r d) < 16777216) (l : gm_lr G S r (d + 1) < 16777216) : U r := by
  have rg : 0 ≤ gm_n G r d ∧ gm_n G r d < gm_N G := by
    rcases gm_p_n X.1 r0 r1 d0 d1 with w | w
    · exact ⟨w.2.2.1, w.2.2.2⟩
    · exact absurd w.2.2 hn
  have a := gm_lr_S X.1 X.2.1 r0 r1 d0 d1 hn
  have b := gm_lr_3 X.1 X.2.1 X.2.2.1 X.2.2.2.1 r0 r1 (by omega) l
  have c := gm_L_bd X.1 X.2.1 X.2.2.1 X.2.2.2.1 rg.1 rg.2 sn
  exact gj_U_row X z8 r0 r1 d0 (by omega) i0 i1 h (by omega)
theorem gj_n_rng (hG : gm_ok G) {r d : Int} (r0 : 0 ≤ r) (r1 : r < gm_R G) (d0 : 0 ≤ d) (d1 : d < gm_s G r) (hn : gm_n G r d ≠ -1) : 0 ≤ gm_n G r d ∧ gm_n G r d < gm_N G := by
  rcases gm_p_n hG r0 r1 d0 d1 with w | w
  · exact ⟨w.2.2.1, w.2.2.2⟩
  · exact absurd w.2.2 hn
/-- sums of none -/
theorem gj_ls_z {L : Int → Int} {r : Int} : ∀ (k : Nat) (d : Int), (∀ e, d ≤ e → e < d + k → 0 ≤ gm_lv G L r e) → gm_ls G L r d k = 0 → ∀ e, d ≤ e → e < d + k → gm_lv G L r e = 0
  | 0, d, _, _, e, e0, e1 => by omega
  | k + 1, d, nn, h, e, e0, e1 => by
    have h' : gm_lv G L r d + gm_ls G L r (d + 1) k = 0 := h
    have a := nn d (Int.le_refl _) (by omega)
    have b : 0 ≤ gm_ls G L r (d + 1) k := by
      have : ∀ (k : Nat) (d : Int), (∀ e, d ≤ e → e < d + k → 0 ≤ gm_lv G L r e) → 0 ≤ gm_ls G L r d k := by
        intro k
        induction k with
        | zero => intro d _; exact Int.le_refl _
        | succ k ih =>
          intro d hd
          have x := ih (d + 1) (fun e a b => hd e (by omega) (by omega))
          have y := hd d (Int.le_refl _) (by omega)
          show 0 ≤ gm_lv G L r d + gm_ls G L r (d + 1) k
          omega
      exact this k (d + 1) (fun e a b => nn e (by omega) (by omega))
    by_cases c : e = d
    · rw [c]
      omega
    · exact gj_ls_z k (d + 1) (fun e a b => nn e (by omega) (by omega)) (by omega) e (by omega) (by omega)
theorem gj_row_ext {r i k : Int} {a : Nat} (h : gt_row G z t (gt_M G z t) r a i k) : ∀ b : Nat, (∀ e : Int, a ≤ e → e < a + b → gm_n G r e ≠ -1 ∧ gt_M G z t (gm_n G r e) k k) → gt_row G z t (gt_M G z t) r ((a + b : Nat) : Int) i k
  | 0, _ => h
  | b + 1, hb => by
    have ih := gj_row_ext h b (fun e a b => hb e a (by omega))
    have e : (((a + (b + 1) : Nat)) : Int) = ((a + b : Nat) : Int) + 1 := by omega
    rw [e]
    have y := hb ((a + b : Nat) : Int) (by omega) (by omega)
    exact (gt_row_s (by omega)).mpr ⟨k, ih, Or.inr y⟩
theorem gj_row_fin {r d i k : Int} (d0 : 0 ≤ d) (d1 : d ≤ gm_s G r) (h : gt_row G z t (gt_M G z t) r d i k) (hb : ∀ e : Int, d ≤ e → e < gm_s G r → gm_n G r e ≠ -1 ∧ gt_M G z t (gm_n G r e) k k) : gt_row G z t (gt_M G z t) r (gm_s G r) i k := by
  have e1 : ((d.toNat : Nat) : Int) = d := by omega
  have e2 : (((d.toNat + (gm_s G r - d).toNat : Nat)) : Int) = gm_s G r := by omega
  have := gj_row_ext (a := d.toNat) (by rw [e1]; exact h) (gm_s G r - d).toNat (fun e a b => hb e (by omega) (by omega))
  rw [e2] at this
  exact this
/-- a name that needs no letter makes none -/
theorem gj_S0 (X : gj_X G S U) {k : Int} (k0 : 0 ≤ k) (k1 : k ≤ z) {n : Int} (n0 : 0 ≤ n) (n1 : n < gm_N G) (h : S n = 0) : gt_M G z t n k k := by
  obtain ⟨Z, hZ⟩ : ∃ Z : Int → Int, Z = fun n => 1 - gt_ib (gt_M G z t n k k) := ⟨_, rfl⟩
  have z01 : ∀ n, (gt_M G z t n k k → Z n = 0) ∧ (¬ gt_M G z t n k k → Z n = 1) := fun n => by
    rw [hZ]
    refine ⟨fun y => ?_, fun y => ?_⟩
    · show 1 - gt_ib (gt_M G z t n k k) = 0
      rw [gt_ib_t y]
      decide
    · show 1 - gt_ib (gt_M G z t n k k) = 1
      rw [gt_ib_f y]
      decide
  have zb : ∀ n, 0 ≤ Z n ∧ Z n ≤ 1 := fun n => by
    by_cases c : gt_M G z t n k k
    · rw [(z01 n).1 c]
      decide
    · rw [(z01 n).2 c]
      decide
  have zr : gm_Lr G Z := fun i _ _ => ⟨(zb i).1, by have := (zb i).2; omega⟩
  have le := X.2.2.2.1 Z zr (fun r r0 r1 => ?_) n n0 n1
  · refine Classical.byContradiction (fun y => ?_)
    have := (z01 n).2 y
    omega
  · have nn := gj_lr_nn X.1 zr r0 r1 (d := 0) (Int.le_refl _)
    have b1 := (zb (gm_o G r)).2
    by_cases c : gm_lr G Z r 0 = 0
    · have ls0 : gm_ls G Z r 0 (gm_s G r - 0).toNat = 0 := by
        have := gj_ls_nn X.1 zr r0 r1 (d := 0) (Int.le_refl _)
        unfold gm_lr at c
        omega
      have all := gj_ls_z _ 0 (fun e a b => gj_lv_nn X.1 zr r0 r1 a (by omega)) ls0
      have m : gt_M G z t (gm_o G r) k k := by
        refine gt_M_cl r k k r0 r1 k0 k1 (gj_row_fin (d := 0) (Int.le_refl _) (X.1.2.2.2.2.1 r r0 r1).2.2.1 (gt_row_0.mpr rfl) (fun e a b => ?_))
        have y := all e a (by omega)
        unfold gm_lv at y
        by_cases c2 : gm_n G r e = -1
        · rw [if_pos c2] at y
          exact absurd y (by decide)
        · rw [if_neg c2] at y
          refine ⟨c2, Classical.byContradiction (fun w => ?_)⟩
          have := (z01 (gm_n G r e)).2 w
          omega
      rw [(z01 _).1 m]
      exact nn
    · omega
/-- the parts of a rest that needs no letter -/
theorem gj_rest0 (X : gj_X G S U) {k : Int} (k0 : 0 ≤ k) (k1 : k ≤ z) {r d : Int} (r0 : 0 ≤ r) (r1 : r < gm_R G) (d0 : 0 ≤ d) (h : gm_lr G S r d = 0) : ∀ e : Int, d ≤ e → e < gm_s G r → gm_n G r e ≠ -1 ∧ gt_M G z t (gm_n G r e) k k := by
  intro e e0 e1
  have ls0 : gm_ls G S r d (gm_s G r - d).toNat = 0 := by
    have := gj_ls_nn X.1 X.2.1 r0 r1 d0
    unfold gm_lr at h
    omega
  have y := gj_ls_z _ d (fun e a b => gj_lv_nn X.1 X.2.1 r0 r1 (by omega) (by omega)) ls0 e e0 (by omega)
  unfold gm_lv at y
  by_cases c2 : gm_n G r e = -1
  · rw [if_pos c2] at y
    exact absurd y (by decide)
  · rw [if_neg c2] at y
    have rg := gj_n_rng X.1 r0 r1 (by omega) e1 c2
    exact ⟨c2, gj_S0 X k0 k1 rg.1 rg.2 y⟩
variable {k : Int} {P : Int → Int → Int}
theorem gj_P_r (X : gj_X G S U) (hP : gw_P G z t S k P) {n i : Int} (n0 : 0 ≤ n) (n1 : n < gm_N G) (i0 : 0 ≤ i) (i1 : i ≤ k) : 0 ≤ P n i ∧ P n i ≤ 16777216 := by
  by_cases c : i = k
  · rw [c, hP.1 n n0 n1]
    exact X.2.1 n n0 n1
  · exact (hP.2 i i0 (by omega)).1 n n0 n1
/-- what is wanted is nothing just where all is there -/
theorem gj_P0 (X : gj_X G S U) (hP : gw_P G z t S k P) {n i : Int} (i0 : 0 ≤ i) (i1 : i ≤ k) (h : gt_M G z t n i k) : P n i = 0 := by
  obtain ⟨r, r0, r1, ro, _, _, w⟩ := gj_inv h
  have a := gw_Y X.1 X.2.1 X.2.2.1 hP r0 r1 (X.1.2.2.2.2.1 r r0 r1).2.2.1 (Int.le_refl _) i0 i1 w
  rw [gj_lr_end, ro] at a
  have rg := gt_M_rng X.1 h
  have b := gj_P_r X hP rg.1 rg.2.1 i0 i1
  omega
theorem gj_P0r (X : gj_X G S U) (k1 : k ≤ z) (hP : gw_P G z t S k P) : ∀ (c : Nat) (i : Int), 0 ≤ i → i ≤ k → k - i ≤ c → ∀ n, 0 ≤ n → n < gm_N G → P n i = 0 → gt_M G z t n i k
  | 0, i, i0, i1, ic, n, n0, n1, h => by
    have e : i = k := by omega
    rw [e] at h ⊢
    rw [hP.1 n n0 n1] at h
    exact gj_S0 X (by omega) k1 n0 n1 h
  | c + 1, i, i0, i1, ic, n, n0, n1, h => by
    by_cases q : i = k
    · exact gj_P0r X k1 hP 0 i i0 i1 (by omega) n n0 n1 h
    obtain ⟨Z, hZ⟩ : ∃ Z : Int → Int, Z = fun n => 1 - gt_ib (gt_M G z t n i k) := ⟨_, rfl⟩
    have z01 : ∀ n, (gt_M G z t n i k → Z n = 0) ∧ (¬ gt_M G z t n i k → Z n = 1) := fun n => by
      rw [hZ]
      refine ⟨fun y => ?_, fun y => ?_⟩
      · show 1 - gt_ib (gt_M G z t n i k) = 0
        rw [gt_ib_t y]
        decide
      · show 1 - gt_ib (gt_M G z t n i k) = 1
        rw [gt_ib_f y]
        decide
    have zb : ∀ n, 0 ≤ Z n ∧ Z n ≤ 1 := fun n => by
      by_cases c : gt_M G z t n i k
      · rw [(z01 n).1 c]
        decide
      · rw [(z01 n).2 c]
        decide
    obtain ⟨f1, f2, f3⟩ := hP.2 i i0 (by omega)
    have le := f3 Z (fun n _ _ => ⟨(zb n).1, by have := (zb n).2; omega⟩) (fun r r0 r1 => ?_) n n0 n1
    · refine Classical.byContradiction (fun y => ?_)
      have := (z01 n).2 y
      have : Z n ≤ P n i := le
      omega
    · have zo := zb (gm_o G r)
      obtain ⟨g0, g1, g2, _⟩ := gmn_sp (A := gw_A G z t S k (fun n e => if e = i then Z n else P n e) r i (gm_s G r)) (K := 16777216) (by decide)
      show Z (gm_o G r) ≤ gmn (gw_A G z t S k (fun n e => if e = i then Z n else P n e) r i (gm_s G r)) 16777216
      rcases g2 with g2 | g2
      · omega
      · generalize gmn (gw_A G z t S k (fun n e => if e = i then Z n else P n e) r i (gm_s G r)) 16777216 = w at g0 g1 g2 ⊢
        by_cases w1 : 1 ≤ w
        · omega
        have w0 : w = 0 := by omega
        obtain ⟨d, d0, d1, hd⟩ := g2
        have ln := gj_lr_nn X.1 X.2.1 r0 r1 (d := d + 1) (by omega)
        have m : gt_M G z t (gm_o G r) i k := by
          rcases hd with ⟨e, ie, ek, hn, row, hw⟩ | ⟨row, hw⟩
          · have rg := gj_n_rng X.1 r0 r1 d0 d1 hn
            have me : gt_M G z t (gm_n G r d) e k ∧ gm_lr G S r (d + 1) = 0 := by
              by_cases ei : e = i
              · have hw' : w = Z (gm_n G r d) + gm_lr G S r (d + 1) := by
                  rw [hw]
                  show (if e = i then Z (gm_n G r d) else P (gm_n G r d) e) + _ = _
                  rw [if_pos ei]
                have a := zb (gm_n G r d)
                refine ⟨Classical.byContradiction (fun y => ?_), by omega⟩
                rw [ei] at y
                have := (z01 _).2 y
                omega
              · have hw' : w = P (gm_n G r d) e + gm_lr G S r (d + 1) := by
                  rw [hw]
                  show (if e = i then Z (gm_n G r d) else P (gm_n G r d) e) + _ = _
                  rw [if_neg ei]
                have a := gj_P_r X hP rg.1 rg.2 (i := e) (by omega) (by omega)
                exact ⟨gj_P0r X k1 hP c e (by omega) (by omega) (by omega) _ rg.1 rg.2 (by omega), by omega⟩
            exact gt_M_cl r i k r0 r1 i0 (by omega) (gj_row_fin (d := d + 1) (by omega) (by omega) ((gt_row_s d0).mpr ⟨e, row, Or.inr ⟨hn, me.1⟩⟩) (gj_rest0 X (by omega) k1 r0 r1 (by omega) me.2))
          · exact gt_M_cl r i k r0 r1 i0 (by omega) (gj_row_fin (d := d + 1) (by omega) (by omega) row (gj_rest0 X (by omega) k1 r0 r1 (by omega) (by omega)))
        rw [(z01 _).1 m]
        omega
theorem gj_end0 (X : gj_X G S U) (k0 : 0 ≤ k) (k1 : k ≤ z) (hP : gw_P G z t S k P) : P 0 0 = 0 ↔ gt_M G z t 0 0 k := by
  have hN := X.1.1
  exact ⟨fun h => gj_P0r X k1 hP k.toNat 0 (Int.le_refl _) k0 (by omega) 0 (Int.le_refl _) (by omega) h, gj_P0 X hP (Int.le_refl _) k0⟩
theorem gj_bnd {B C : Int} : ∀ n : Nat, gf_bnd B C n = B + C * n
  | 0 => by
    show B = B + C * ((0 : Nat) : Int)
    omega
  | n + 1 => by
    show gf_bnd B C n + C = B + C * ((n + 1 : Nat) : Int)
    rw [gj_bnd n]
    have e : ((n + 1 : Nat) : Int) = (n : Int) + 1 := by omega
    rw [e, Int.mul_add, Int.mul_one]
    omega
/-- a name that stands there and can be ended: the whole can be -/
theorem gj_up (X : gj_X G S U) (z8 : z ≤ 8) (k1 : k ≤ z) (hP : gw_P G z t S k P) {n i : Int} (h : gt_S G z t U True n i) : i ≤ k → P n i < 16777216 → P 0 0 < 16777216 := by
  refine h (fun n i => i ≤ k → P n i < 16777216 → P 0 0 < 16777216) ⟨fun _ _ h => h, fun r d i j r0 r1 d0 d1 u hn i0 i1 hz row jk hj => ?_⟩
  have rg := gt_row_M X.1 i1 row
  have nr := gj_n_rng X.1 r0 r1 d0 d1 hn
  have a := gw_X X.1 X.2.1 X.2.2.1 hP r0 r1 d0 d1 hn i0 rg.1 jk row
  have b := gw_bd X.1 X.2.1 X.2.2.1 X.2.2.2.1 hP (k - j).toNat j (by omega) (by omega) _ nr.1 nr.2 hj
  rw [gj_bnd] at b
  have c := gm_lr_3 X.1 X.2.1 X.2.2.1 X.2.2.2.1 r0 r1 (d := d + 1) (by omega) (gj_lr_U X r0 r1 (by omega) (by omega) u)
  have l : ((8 * (k - j).toNat : Nat) : Int) ≤ 64 := by omega
  exact hz (by omega) (by omega)
/-- a name that can be ended behind letters ends -/
theorem gj_PS (X : gj_X G S U) (z8 : z ≤ 8) (k1 : k ≤ z) (hP : gw_P G z t S k P) : ∀ (c : Nat) (i : Int), 0 ≤ i → i ≤ k → k - i ≤ c → ∀ n, 0 ≤ n → n < gm_N G → P n i < 16777216 → S n < 16777216
  | 0, i, i0, i1, ic, n, n0, n1, h => by
    have e : i = k := by omega
    rw [e, hP.1 n n0 n1] at h
    exact h
  | c + 1, i, i0, i1, ic, n, n0, n1, h => by
    by_cases q : i = k
    · exact gj_PS X z8 k1 hP 0 i i0 i1 (by omega) n n0 n1 h
    obtain ⟨f1, f2, f3⟩ := hP.2 i i0 (by omega)
    obtain ⟨sys, _⟩ := gw_sys X.1 (z := z) (t := t) X.2.1 (k := k) (i := i) (by omega) (P := P) (fun n e n0 n1 e0 e1 => gj_P_r X hP n0 n1 (by omega) (by omega))
    have zr : gf_r (gm_N G) 16777216 (fun n => if S n < 16777216 then P n i else 16777216) := fun n n0 n1 => by
      by_cases c : S n < 16777216
      · show 0 ≤ (if S n < 16777216 then P n i else 16777216) ∧ (if S n < 16777216 then P n i else 16777216) ≤ 16777216
        rw [if_pos c]
        exact f1 n n0 n1
      · show 0 ≤ (if S n < 16777216 then P n i else 16777216) ∧ (if S n < 16777216 then P n i else 16777216) ≤ 16777216
        rw [if_neg c]
        decide
    have le := f3 (fun n => if S n < 16777216 then P n i else 16777216) zr (fun r r0 r1 => ?_) n n0 n1
    · refine Classical.byContradiction (fun y => ?_)
      have le : (if S n < 16777216 then P n i else 16777216) ≤ P n i := le
      rw [if_neg y] at le
      omega
    · have mono := sys.2.2 r (fun n => P n i) (fun n => if S n < 16777216 then P n i else 16777216) r0 r1 f1 zr (fun n n0 n1 => by
        by_cases c : S n < 16777216
        · show P n i ≤ (if S n < 16777216 then P n i else 16777216)
          rw [if_pos c]
          exact Int.le_refl _
        · show P n i ≤ (if S n < 16777216 then P n i else 16777216)
          rw [if_neg c]
          exact (f1 n n0 n1).2)
      have cl := f2 r r0 r1
      show (if S (gm_o G r) < 16777216 then P (gm_o G r) i else 16777216) ≤ _
      by_cases so : S (gm_o G r) < 16777216
      · rw [if_pos so]
        exact Int.le_trans cl mono
      · rw [if_neg so]
        obtain ⟨g0, g1, g2, _⟩ := gmn_sp (A := gw_A G z t S k (fun n e => if e = i then (if S n < 16777216 then P n i else 16777216) else P n e) r i (gm_s G r)) (K := 16777216) (by decide)
        show 16777216 ≤ gmn (gw_A G z t S k (fun n e => if e = i then (if S n < 16777216 then P n i else 16777216) else P n e) r i (gm_s G r)) 16777216
        rcases g2 with g2 | g2
        · omega
        · generalize gmn (gw_A G z t S k (fun n e => if e = i then (if S n < 16777216 then P n i else 16777216) else P n e) r i (gm_s G r)) 16777216 = w at g0 g1 g2 ⊢
          refine Classical.byContradiction (fun lt => so ?_)
          obtain ⟨d, d0, d1, hd⟩ := g2
          have ln := gj_lr_nn X.1 X.2.1 r0 r1 (d := d + 1) (by omega)
          have u : U r := by
            rcases hd with ⟨e, ie, ek, hn, row, hw⟩ | ⟨row, hw⟩
            · have rg := gj_n_rng X.1 r0 r1 d0 d1 hn
              have sn : S (gm_n G r d) < 16777216 ∧ gm_lr G S r (d + 1) < 16777216 := by
                by_cases ei : e = i
                · have hw' : w = (if S (gm_n G r d) < 16777216 then P (gm_n G r d) i else 16777216) + gm_lr G S r (d + 1) := by
                    rw [hw]
                    show (if e = i then (if S (gm_n G r d) < 16777216 then P (gm_n G r d) i else 16777216) else P (gm_n G r d) e) + _ = _
                    rw [if_pos ei]
                  have a := (zr _ rg.1 rg.2).1
                  have a' : 0 ≤ (if S (gm_n G r d) < 16777216 then P (gm_n G r d) i else 16777216) := a
                  refine ⟨Classical.byContradiction (fun y => ?_), by omega⟩
                  rw [if_neg y] at hw'
                  omega
                · have hw' : w = P (gm_n G r d) e + gm_lr G S r (d + 1) := by
                    rw [hw]
                    show (if e = i then (if S (gm_n G r d) < 16777216 then P (gm_n G r d) i else 16777216) else P (gm_n G r d) e) + _ = _
                    rw [if_neg ei]
                  have a := gj_P_r X hP rg.1 rg.2 (i := e) (by omega) (by omega)
                  exact ⟨gj_PS X z8 k1 hP c e (by omega) (by omega) (by omega) _ rg.1 rg.2 (by omega), by omega⟩
              exact gj_U_A X z8 r0 r1 d0 d1 i0 (by omega) row hn sn.1 sn.2
            · exact gj_U_row X z8 r0 r1 (by omega) (by omega) i0 (by omega) row (by omega)
          have a := X.2.2.1 r r0 r1
          have b := (X.2.2.2.2 r r0 r1).mp u
          omega
end G20
