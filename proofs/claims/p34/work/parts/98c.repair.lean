/-! WHAT IT TAKES, against the language -/
section G22
variable {G : gm_G} {z : Int} {t : Int → Int} {r i : Int}
/-- where the parts of a row end -/
theorem gj_cut {A : Int → Int → Int → Prop} (hA : ∀ n p q, A n p q → p ≤ q) : ∀ (d : Nat) (j : Int), gt_rw (gt_pm G z t A r) d i j → ∃ c : Int → Int, c 0 = i ∧ c d = j ∧ ∀ e : Int, 0 ≤ e → e < d → gt_pm G z t A r e (c e) (c (e + 1)) ∧ c e ≤ c (e + 1)
  | 0, j, h => ⟨fun _ => i, rfl, h, fun e a b => by omega⟩
  | d + 1, j, ⟨p, h1, h2⟩ => by
    obtain ⟨c0, a1, a2, a3⟩ := gj_cut hA d p h1
    have lt : ∀ x : Int, x ≤ d → (if x ≤ (d : Int) then c0 x else j) = c0 x := fun x hx => if_pos hx
    have ge : ∀ x : Int, ¬ x ≤ (d : Int) → (if x ≤ (d : Int) then c0 x else j) = j := fun x hx => if_neg hx
    refine ⟨fun x => if x ≤ (d : Int) then c0 x else j, ?_, ?_, fun e e0 e1 => ?_⟩
    · show (if (0 : Int) ≤ (d : Int) then c0 0 else j) = i
      rw [lt 0 (by omega)]
      exact a1
    · show (if ((d + 1 : Nat) : Int) ≤ (d : Int) then c0 _ else j) = j
      exact if_neg (by omega)
    · show gt_pm G z t A r e (if e ≤ (d : Int) then c0 e else j) (if e + 1 ≤ (d : Int) then c0 (e + 1) else j) ∧ (if e ≤ (d : Int) then c0 e else j) ≤ (if e + 1 ≤ (d : Int) then c0 (e + 1) else j)
      by_cases q : e = d
      · rw [lt e (by omega), ge (e + 1) (by omega), q, a2]
        refine ⟨h2, ?_⟩
        rcases h2 with ⟨_, w, _⟩ | ⟨_, w⟩
        · omega
        · exact hA _ _ _ w
      · rw [lt e (by omega), lt (e + 1) (by omega)]
        exact a3 e e0 (by omega)
theorem gj_uncut {A : Int → Int → Int → Prop} {c : Int → Int} : ∀ d : Nat, (∀ e : Int, 0 ≤ e → e < d → gt_pm G z t A r e (c e) (c (e + 1))) → gt_rw (gt_pm G z t A r) d (c 0) (c d)
  | 0, _ => rfl
  | d + 1, h => by
    refine ⟨c d, gj_uncut d (fun e a b => h e a (by omega)), ?_⟩
    have := h d (by omega) (by omega)
    have e : (((d + 1 : Nat)) : Int) = (d : Int) + 1 := by omega
    rw [e]
    exact this
theorem gj_row_cut (hG : gm_ok G) {d j : Int} (d0 : 0 ≤ d) (h : gt_row G z t (gt_M G z t) r d i j) : ∃ c : Int → Int, c 0 = i ∧ c d = j ∧ ∀ e : Int, 0 ≤ e → e < d → gt_pm G z t (gt_M G z t) r e (c e) (c (e + 1)) ∧ c e ≤ c (e + 1) := by
  have := gj_cut (fun n p q w => (gt_M_rng hG w).2.2.2.1) d.toNat j h
  have e : ((d.toNat : Nat) : Int) = d := by omega
  rw [e] at this
  exact this
end G22
section G23
variable {G : gm_G} {S : Int → Int} {U : Int → Prop} {z : Int} {t : Int → Int} {C : Int → Int → Int → Int}
theorem gj_pc_l {r d p : Int} (hn : gm_n G r d = -1) (h : gb (gm_p G r d) (t p)) : gr_pc G t C r d p (p + 1) = 0 := by
  unfold gr_pc
  rw [if_pos hn, gt_ib_t ⟨p, Int.le_refl _, by omega, h⟩]
  omega
theorem gj_pc_n {r d p q : Int} (hn : gm_n G r d ≠ -1) : gr_pc G t C r d p q = C (gm_n G r d) p q := by
  unfold gr_pc
  rw [if_neg hn]
theorem gj_pc_e {r d p : Int} (hn : gm_n G r d = -1) : gr_pc G t C r d p p = 1 := by
  unfold gr_pc
  have : ¬ gr_ft G t r d p p := fun ⟨l, a, b, _⟩ => by omega
  rw [if_pos hn, gt_ib_f this]
  omega
/-- what a name makes takes nothing -/
theorem gj_M_C (hG : gm_ok G) (hu : gr_U G t z C) (hb : gr_b G z 16777216 C) {n i j : Int} (h : gt_M G z t n i j) : C n i j = 0 := by
  have h2 := h (fun n i j => gt_M G z t n i j ∧ C n i j = 0) (fun r i j r0 r1 i0 i1 w => by
    have w2 := gt_row_mono (B := gt_M G z t) (fun _ _ _ _ _ _ y => y.1) w
    have m := gt_M_cl r i j r0 r1 i0 i1 w2
    refine ⟨m, ?_⟩
    have rg := gt_M_rng hG m
    have so := (hG.2.2.2.2.1 r r0 r1).2.2.1
    have b := hb _ i j rg.1 rg.2.1 rg.2.2.1 rg.2.2.2.1 rg.2.2.2.2
    obtain ⟨u1, u2⟩ := hu r i j r0 r1 i0 rg.2.2.2.1 rg.2.2.2.2
    by_cases s0 : gm_s G r = 0
    · have a := u1 s0
      rw [s0] at w2
      have : i = j := w2
      omega
    · obtain ⟨c, c0, cs, hc⟩ := gj_cut (fun n p q (y : gt_M G z t n p q ∧ C n p q = 0) => (gt_M_rng hG y.1).2.2.2.1) (gm_s G r).toNat j w
      have e : (((gm_s G r).toNat : Nat) : Int) = gm_s G r := by omega
      rw [e] at cs hc
      have a := u2 c s0 ⟨c0, cs, fun d d0 d1 => (hc d d0 d1).2⟩
      have zs : gr_sm G t C r c (gm_s G r).toNat = 0 := by
        unfold gr_sm
        refine gsum_z _ (fun d d0 d1 => ?_)
        rcases (hc d d0 (by omega)).1 with ⟨hn, eq, _, hb⟩ | ⟨hn, y⟩
        · rw [eq]
          exact gj_pc_l hn hb
        · rw [gj_pc_n hn]
          exact y.2
      omega)
  exact h2.2
/-- what takes nothing is made -/
theorem gj_C_M (hG : gm_ok G) (s3 : gm_Lso G S) (hp : ∀ j, 0 ≤ j → j ≤ z → gr_P G U S t C j) {n i j : Int} (n0 : 0 ≤ n) (n1 : n < gm_N G) (i0 : 0 ≤ i) (ij : i ≤ j) (jz : j ≤ z) (h : C n i j = 0) : gt_M G z t n i j := by
  obtain ⟨Z, hZ⟩ : ∃ Z : Int → Int → Int → Int, Z = fun n i j => 1 - gt_ib (gt_M G z t n i j) := ⟨_, rfl⟩
  have z01 : ∀ n i j, (gt_M G z t n i j → Z n i j = 0) ∧ (¬ gt_M G z t n i j → Z n i j = 1) := fun n i j => by
    rw [hZ]
    refine ⟨fun y => ?_, fun y => ?_⟩
    · show 1 - gt_ib (gt_M G z t n i j) = 0
      rw [gt_ib_t y]
      decide
    · show 1 - gt_ib (gt_M G z t n i j) = 1
      rw [gt_ib_f y]
      decide
  have zb : ∀ n i j, 0 ≤ Z n i j ∧ Z n i j ≤ 1 := fun n i j => by
    by_cases c : gt_M G z t n i j
    · rw [(z01 n i j).1 c]
      decide
    · rw [(z01 n i j).2 c]
      decide
  have le := gr_U_le hG s3 hp (Z := Z) (fun n i j _ _ _ _ _ => ⟨(zb n i j).1, by have := (zb n i j).2; omega⟩) (fun r i j r0 r1 i0 ij jz => by
    have so := (hG.2.2.2.2.1 r r0 r1).2.2.1
    have z1 := zb (gm_o G r) i j
    refine ⟨fun s0 => ?_, fun c s0 hc => ?_⟩
    · by_cases q : i = j
      · have m : gt_M G z t (gm_o G r) i j := gt_M_cl r i j r0 r1 i0 (by omega) (by rw [s0]; exact q)
        rw [(z01 _ _ _).1 m]
        omega
      · omega
    · have nn := gr_sm_0 hG (t := t) (C := Z) r0 r1 (c := c) (gm_s G r).toNat (by omega) (fun d _ _ m _ _ => (zb m _ _).1)
      by_cases s1 : 1 ≤ gr_sm G t Z r c (gm_s G r).toNat
      · omega
      · have all : ∀ d : Int, 0 ≤ d → d < gm_s G r → gr_pc G t Z r d (c d) (c (d + 1)) = 0 := fun d d0 d1 => by
          have p0 : ∀ d : Int, 0 ≤ d → d < (((gm_s G r).toNat : Nat) : Int) → 0 ≤ gr_pc G t Z r d (c d) (c (d + 1)) := fun d d0 d1 => gr_pc_0 hG r0 r1 d0 (by omega) (fun n _ _ => (zb n _ _).1)
          have a := gsum_ge (f := fun d => gr_pc G t Z r d (c d) (c (d + 1))) (gm_s G r).toNat p0 d d0 (by omega)
          have a : gr_pc G t Z r d (c d) (c (d + 1)) ≤ gr_sm G t Z r c (gm_s G r).toNat := a
          have b := p0 d d0 (by omega)
          omega
        have row := gj_uncut (G := G) (z := z) (t := t) (r := r) (A := gt_M G z t) (c := c) (gm_s G r).toNat (fun e e0 e1 => by
          have y := all e e0 (by omega)
          have m1 := hc.2.2 e e0 (by omega)
          have rg1 := gr_In_rng so hc (d := e) e0 (by omega)
          have rg2 := gr_In_rng so hc (d := e + 1) (by omega) (by omega)
          by_cases hn : gm_n G r e = -1
          · unfold gr_pc at y
            rw [if_pos hn] at y
            have ft : gr_ft G t r e (c e) (c (e + 1)) := Classical.byContradiction (fun w => by
              rw [gt_ib_f w] at y
              omega)
            rw [gt_ib_t ft] at y
            obtain ⟨l, l0, l1, hl⟩ := ft
            have e1 : l = c e := by omega
            rw [e1] at hl
            exact Or.inl ⟨hn, by omega, by omega, hl⟩
          · rw [gj_pc_n hn] at y
            refine Or.inr ⟨hn, Classical.byContradiction (fun w => ?_)⟩
            have := (z01 _ _ _).2 w
            omega)
        have e : (((gm_s G r).toNat : Nat) : Int) = gm_s G r := by omega
        rw [e, hc.1, hc.2.1] at row
        rw [(z01 _ _ _).1 (gt_M_cl r i j r0 r1 i0 (by omega) row)]
        exact nn) (j - i).toNat n i j n0 n1 i0 (by omega) jz
  refine Classical.byContradiction (fun y => ?_)
  have := (z01 n i j).2 y
  omega
theorem gj_ls_end {L : Int → Int} {r : Int} : ∀ (k : Nat) (d : Int), gm_ls G L r d (k + 1) = gm_ls G L r d k + gm_lv G L r (d + k)
  | 0, d => by
    show gm_lv G L r d + 0 = 0 + gm_lv G L r (d + ((0 : Nat) : Int))
    have e : d + ((0 : Nat) : Int) = d := by omega
    rw [e]
    omega
  | k + 1, d => by
    show gm_lv G L r d + gm_ls G L r (d + 1) (k + 1) = (gm_lv G L r d + gm_ls G L r (d + 1) k) + gm_lv G L r (d + ((k + 1 : Nat) : Int))
    rw [gj_ls_end k (d + 1)]
    have e : d + 1 + (k : Int) = d + ((k + 1 : Nat) : Int) := by omega
    rw [e]
    omega
theorem gj_tail {L : Int → Int} {r : Int} {f : Int → Int} {a : Nat} : ∀ k : Nat, (∀ x : Int, a ≤ x → x < a + k → f x = gm_lv G L r x) → gsum f (a + k) = gsum f a + gm_ls G L r a k
  | 0, _ => by
    show gsum f a = gsum f a + 0
    omega
  | k + 1, h => by
    show gsum f (a + k) + f ((a + k : Nat) : Int) = gsum f a + gm_ls G L r a (k + 1)
    rw [gj_tail k (fun x x0 x1 => h x x0 (by omega)), gj_ls_end k, h ((a + k : Nat) : Int) (by omega) (by omega)]
    have e : (((a + k : Nat)) : Int) = (a : Int) + k := by omega
    rw [e]
    omega
/-- a cut of a row that costs x for its first parts, and what is needed for the rest -/
theorem gj_cost (hG : gm_ok G) (hb : gr_b G z 16777216 C) (hu : gr_U G t z C) (hS : ∀ n, 0 ≤ n → n < gm_N G → C n z z = S n) {r i d : Int} (r0 : 0 ≤ r) (r1 : r < gm_R G) (i0 : 0 ≤ i) (iz : i ≤ z) (d0 : 0 ≤ d) (d1 : d ≤ gm_s G r) (s0 : gm_s G r ≠ 0) {c : Int → Int} {x : Int} (c0 : c 0 = i) (cd : c d = z) (mono : ∀ e, 0 ≤ e → e < d → c e ≤ c (e + 1)) (hx : gsum (fun e => gr_pc G t C r e (c e) (c (e + 1))) d.toNat = x) : C (gm_o G r) i z ≤ x + gm_lr G S r d := by
  have ob := hG.2.2.2.2.1 r r0 r1
  have b := hb (gm_o G r) i z ob.1 ob.2.1 i0 iz (Int.le_refl _)
  have pcn : ∀ e : Int, 0 ≤ e → e < d → 0 ≤ x := fun _ _ _ => by
    rw [← hx]
    refine gsum_nn _ (fun e e0 e1 => ?_)
    have rng : ∀ y : Nat, (y : Int) ≤ d → i ≤ c y ∧ c y ≤ z := by
      have up : ∀ (a b : Nat), ((a + b : Nat) : Int) ≤ d → c a ≤ c ((a + b : Nat) : Int) := by
        intro a b
        induction b with
        | zero => exact fun _ => Int.le_refl _
        | succ b ih =>
          intro h
          have h1 := ih (by omega)
          have h2 := mono ((a + b : Nat) : Int) (by omega) (by omega)
          have e : (((a + (b + 1) : Nat)) : Int) = ((a + b : Nat) : Int) + 1 := by omega
          rw [e]
          omega
      intro y hy
      have a := up 0 y (by omega)
      have b := up y (d.toNat - y) (by omega)
      have e0 : ((0 + y : Nat) : Int) = y := by omega
      have e1 : ((y + (d.toNat - y) : Nat) : Int) = d := by omega
      have e2 : (((0 : Nat)) : Int) = 0 := rfl
      rw [e0, e2, c0] at a
      rw [e1, cd] at b
      exact ⟨a, b⟩
    have y1 := rng e.toNat (by omega)
    have y2 := rng (e + 1).toNat (by omega)
    have e3 : ((e.toNat : Nat) : Int) = e := by omega
    have e4 : (((e + 1).toNat : Nat) : Int) = e + 1 := by omega
    rw [e3] at y1
    rw [e4] at y2
    have y3 := mono e e0 (by omega)
    exact gr_pc_0 hG r0 r1 e0 (by omega) (fun n n0 n1 => (hb n _ _ n0 n1 (by omega) y3 (by omega)).1)
  have x0 : 0 ≤ x := by
    by_cases q : d = 0
    · rw [q] at hx
      have : (0 : Int) = x := hx
      omega
    · exact pcn 0 (Int.le_refl _) (by omega)
  obtain ⟨c2, hc2⟩ : ∃ c2 : Int → Int, c2 = fun y => if y ≤ d then c y else z := ⟨_, rfl⟩
  have lt : ∀ y : Int, y ≤ d → c2 y = c y := fun y hy => by rw [hc2]; exact if_pos hy
  have ge : ∀ y : Int, d ≤ y → c2 y = z := fun y hy => by
    by_cases q : y = d
    · rw [q, lt d (Int.le_refl _), cd]
    · rw [hc2]
      exact if_neg (by omega)
  have a := (hu r i z r0 r1 i0 iz (Int.le_refl _)).2 c2 s0 ⟨by rw [lt 0 d0]; exact c0, ge _ d1, fun e e0 e1 => by
    by_cases q : e < d
    · rw [lt e (by omega), lt (e + 1) (by omega)]
      exact mono e e0 q
    · rw [ge e (by omega), ge (e + 1) (by omega)]
      exact Int.le_refl _⟩
  have sm : gr_sm G t C r c2 (gm_s G r).toNat = x + gm_ls G S r d (gm_s G r - d).toNat := by
    unfold gr_sm
    have e1 : (gm_s G r).toNat = d.toNat + (gm_s G r - d).toNat := by omega
    have e2 : ((d.toNat : Nat) : Int) = d := by omega
    rw [e1, gj_tail (G := G) (L := S) (r := r) (gm_s G r - d).toNat (fun y y0 y1 => ?_), e2]
    · rw [← hx]
      congr 1
      refine gsum_cg _ (fun e e0 e1 => ?_)
      show gr_pc G t C r e (c2 e) (c2 (e + 1)) = gr_pc G t C r e (c e) (c (e + 1))
      rw [lt e (by omega), lt (e + 1) (by omega)]
    · show gr_pc G t C r y (c2 y) (c2 (y + 1)) = gm_lv G S r y
      rw [ge y (by omega), ge (y + 1) (by omega)]
      unfold gm_lv
      by_cases hn : gm_n G r y = -1
      · rw [if_pos hn, gj_pc_e hn]
      · have rg := gj_n_rng hG r0 r1 (d := y) (by omega) (by omega) hn
        rw [if_neg hn, gj_pc_n hn, hS _ rg.1 rg.2]
  rw [sm] at a
  unfold gm_lr
  omega
theorem gj_sum0 (hG : gm_ok G) (hu : gr_U G t z C) (hb : gr_b G z 16777216 C) {r : Int} {c : Int → Int} (n : Nat) (h : ∀ e : Int, 0 ≤ e → e < n → gt_pm G z t (gt_M G z t) r e (c e) (c (e + 1))) : gsum (fun e => gr_pc G t C r e (c e) (c (e + 1))) n = 0 := by
  refine gsum_z _ (fun e e0 e1 => ?_)
  rcases h e e0 e1 with ⟨hn, eq, _, hb⟩ | ⟨hn, y⟩
  · rw [eq]
    exact gj_pc_l hn hb
  · rw [gj_pc_n hn]
    exact gj_M_C hG hu hb y
/-- what is wanted behind the text puts it right -/
theorem gj_C_P (X : gj_X G S U) (z8 : z ≤ 8) (hp : ∀ j, 0 ≤ j → j ≤ z → gr_P G U S t C j) (hb : gr_b G z 16777216 C) (hu : gr_U G t z C) {P : Int → Int → Int} (hP : gw_P G z t S z P) : ∀ (c : Nat) (i : Int), 0 ≤ i → i ≤ z → z - i ≤ c → ∀ n, 0 ≤ n → n < gm_N G → C n i z ≤ P n i
  | 0, i, i0, i1, ic, n, n0, n1 => by
    have e : i = z := by omega
    rw [e, hP.1 n n0 n1, (hp z (by omega) (Int.le_refl _)).1 n n0 n1]
    exact Int.le_refl _
  | c + 1, i, i0, i1, ic, n, n0, n1 => by
    by_cases q : i = z
    · exact gj_C_P X z8 hp hb hu hP 0 i i0 i1 (by omega) n n0 n1
    have hS := (hp z (by omega) (Int.le_refl _)).1
    obtain ⟨f1, f2, f3⟩ := hP.2 i i0 (by omega)
    refine f3 (fun n => C n i z) (fun n n0 n1 => hb n i z n0 n1 i0 i1 (Int.le_refl _)) (fun r r0 r1 => ?_) n n0 n1
    have ob := X.1.2.2.2.2.1 r r0 r1
    have b := hb (gm_o G r) i z ob.1 ob.2.1 i0 i1 (Int.le_refl _)
    obtain ⟨g0, g1, g2, _⟩ := gmn_sp (A := gw_A G z t S z (fun n e => if e = i then C n i z else P n e) r i (gm_s G r)) (K := 16777216) (by decide)
    show C (gm_o G r) i z ≤ gmn (gw_A G z t S z (fun n e => if e = i then C n i z else P n e) r i (gm_s G r)) 16777216
    rcases g2 with g2 | g2
    · omega
    · generalize gmn (gw_A G z t S z (fun n e => if e = i then C n i z else P n e) r i (gm_s G r)) 16777216 = w at g0 g1 g2 ⊢
      obtain ⟨d, d0, d1, hd⟩ := g2
      rcases hd with ⟨e, ie, ek, hn, row, hw⟩ | ⟨row, hw⟩
      · have rg := gj_n_rng X.1 r0 r1 d0 d1 hn
        have ve : C (gm_n G r d) e z ≤ (if e = i then C (gm_n G r d) i z else P (gm_n G r d) e) := by
          by_cases ei : e = i
          · rw [if_pos ei, ei]
            exact Int.le_refl _
          · rw [if_neg ei]
            exact gj_C_P X z8 hp hb hu hP c e (by omega) (by omega) (by omega) _ rg.1 rg.2
        have hw : w = (if e = i then C (gm_n G r d) i z else P (gm_n G r d) e) + gm_lr G S r (d + 1) := hw
        obtain ⟨c1, a0, a1, a2⟩ := gj_row_cut X.1 d0 row
        obtain ⟨c2, hc2⟩ : ∃ c2 : Int → Int, c2 = fun y => if y ≤ d then c1 y else z := ⟨_, rfl⟩
        have lt : ∀ y : Int, y ≤ d → c2 y = c1 y := fun y hy => by rw [hc2]; exact if_pos hy
        have gd : c2 (d + 1) = z := by rw [hc2]; exact if_neg (by omega)
        have cost := gj_cost X.1 hb hu hS r0 r1 i0 i1 (d := d + 1) (by omega) (by omega) (by omega) (c := c2) (x := C (gm_n G r d) e z) (by rw [lt 0 d0]; exact a0) gd (fun y y0 y1 => by
          by_cases qq : y = d
          · rw [qq, gd, lt d (Int.le_refl _), a1]
            omega
          · rw [lt y (by omega), lt (y + 1) (by omega)]
            exact (a2 y y0 (by omega)).2) (by
          have e1 : (d + 1).toNat = d.toNat + 1 := by omega
          have e2 : ((d.toNat : Nat) : Int) = d := by omega
          rw [e1]
          show gsum _ d.toNat + gr_pc G t C r ((d.toNat : Nat) : Int) (c2 ((d.toNat : Nat) : Int)) (c2 (((d.toNat : Nat) : Int) + 1)) = _
          rw [e2, gd, lt d (Int.le_refl _), a1, gj_pc_n hn, gj_sum0 X.1 hu hb d.toNat (fun y y0 y1 => by
            rw [lt y (by omega), lt (y + 1) (by omega)]
            exact (a2 y y0 (by omega)).1)]
          omega)
        omega
      · obtain ⟨c1, a0, a1, a2⟩ := gj_row_cut X.1 (d := d + 1) (by omega) row
        have cost := gj_cost X.1 hb hu hS r0 r1 i0 i1 (d := d + 1) (by omega) (by omega) (by omega) (c := c1) (x := 0) a0 a1 (fun y y0 y1 => (a2 y y0 y1).2) (gj_sum0 X.1 hu hb (d + 1).toNat (fun y y0 y1 => (a2 y y0 (by omega)).1))
        omega
end G23
