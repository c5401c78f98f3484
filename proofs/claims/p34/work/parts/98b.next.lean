/-! WHAT MAY COME NEXT, and whether letters can be gone on with at all -/
/-- the rules that are gone on with, where they begin -/
def gj_PR (G : gm_G) (z : Int) (t : Int → Int) (U : Int → Prop) (r i : Int) : Prop := 0 ≤ r ∧ r < gm_R G ∧ U r ∧ gt_S G z t U True (gm_o G r) i
/-- letters k can be gone on with, or are a text -/
def gj_go (G : gm_G) (z : Int) (t : Int → Int) (U : Int → Prop) (k : Int) : Prop := ∃ c, 0 ≤ c ∧ gt_nx G z t (gj_PR G z t U) k c
section G21
variable {G : gm_G} {S : Int → Int} {U : Int → Prop} {z : Int} {t : Int → Int} {k : Int} {P : Int → Int → Int}
/-- a set has a letter -/
theorem gj_bit {x : Int} (h : 0 < x) : ∃ c, 0 ≤ c ∧ gb x c := by
  refine Classical.byContradiction (fun y => ?_)
  have e : x.toNat = 0 := by
    apply Nat.eq_of_testBit_eq
    intro i
    rw [Nat.zero_testBit]
    refine Bool.eq_false_iff.mpr (fun w => y ⟨(i : Int), by omega, ?_⟩)
    show x.toNat.testBit ((i : Int)).toNat = true
    have e : ((i : Int)).toNat = i := by omega
    rw [e]
    exact w
  omega
theorem gj_set (hG : gm_ok G) {r d : Int} (r0 : 0 ≤ r) (r1 : r < gm_R G) (d0 : 0 ≤ d) (d1 : d < gm_s G r) (hn : gm_n G r d = -1) : 0 < gm_p G r d ∧ gm_p G r d < 67108864 := by
  rcases gm_p_n hG r0 r1 d0 d1 with w | w
  · omega
  · exact ⟨w.1, w.2.1⟩
/-- along a rule that stands there -/
theorem gj_along (X : gj_X G S U) (k0 : 0 ≤ k) (k1 : k ≤ z) (hH : ∀ n, 0 ≤ n → n < gm_N G → S n < 16777216 → gt_S G z t U True n k → gt_M G z t n k k ∨ gj_go G z t U k) {r i : Int} (r0 : 0 ≤ r) (r1 : r < gm_R G) (u : U r) (st : gt_S G z t U True (gm_o G r) i) (i0 : 0 ≤ i) (i1 : i ≤ z) : ∀ (c : Nat) (d : Int), 0 ≤ d → d + c = gm_s G r → gt_row G z t (gt_M G z t) r d i k → gt_M G z t (gm_o G r) i k ∨ gj_go G z t U k
  | 0, d, d0, e, h => by
    have e2 : d = gm_s G r := by omega
    rw [e2] at h
    exact Or.inl (gt_M_cl r i k r0 r1 i0 i1 h)
  | c + 1, d, d0, e, h => by
    by_cases hn : gm_n G r d = -1
    · obtain ⟨l, l0, hl⟩ := gj_bit (gj_set X.1 r0 r1 d0 (by omega) hn).1
      exact Or.inr ⟨l, l0, r, i, d, ⟨r0, r1, u, st⟩, d0, by omega, hn, hl, h⟩
    · have rg := gj_n_rng X.1 r0 r1 d0 (by omega) hn
      have sn := gj_ends X r0 r1 d0 (by omega) hn u
      have st2 := gt_S_cl.2 r d i k r0 r1 d0 (by omega) u hn i0 i1 st h
      rcases hH _ rg.1 rg.2 sn st2 with m | m
      · exact gj_along X k0 k1 hH r0 r1 u st i0 i1 c (d + 1) (by omega) (by omega) ((gt_row_s d0).mpr ⟨k, h, Or.inr ⟨hn, m⟩⟩)
      · exact Or.inr m
/-- a name that ends, and stands at k: it makes nothing, or a letter may come -/
theorem gj_H (X : gj_X G S U) (k0 : 0 ≤ k) (k1 : k ≤ z) : ∀ n, 0 ≤ n → n < gm_N G → S n < 16777216 → gt_S G z t U True n k → gt_M G z t n k k ∨ gj_go G z t U k := by
  intro n n0 n1 sn st
  have d01 : ∀ p : Prop, p ∨ ¬ p := Classical.em
  obtain ⟨Z, hZ⟩ : ∃ Z : Int → Int, ∀ n, ((gt_S G z t U True n k → gt_M G z t n k k ∨ gj_go G z t U k) → Z n = S n) ∧ (¬ (gt_S G z t U True n k → gt_M G z t n k k ∨ gj_go G z t U k) → Z n = 16777216) := by
    refine ⟨fun n => @ite Int (gt_S G z t U True n k → gt_M G z t n k k ∨ gj_go G z t U k) (Classical.propDecidable _) (S n) 16777216, fun n => ⟨fun y => if_pos y, fun y => if_neg y⟩⟩
  have zr : gm_Lr G Z := fun i i0 i1 => by
    rcases d01 (gt_S G z t U True i k → gt_M G z t i k k ∨ gj_go G z t U k) with c | c
    · rw [(hZ i).1 c]
      exact X.2.1 i i0 i1
    · rw [(hZ i).2 c]
      decide
  have up : ∀ i, 0 ≤ i → i < gm_N G → S i ≤ Z i := fun i i0 i1 => by
    rcases d01 (gt_S G z t U True i k → gt_M G z t i k k ∨ gj_go G z t U k) with c | c
    · rw [(hZ i).1 c]
      exact Int.le_refl _
    · rw [(hZ i).2 c]
      exact (X.2.1 i i0 i1).2
  have le := X.2.2.2.1 Z zr (fun r r0 r1 => ?_) n n0 n1
  · refine Classical.byContradiction (fun y => ?_)
    have := (hZ n).2 (fun w => y (w st))
    omega
  · rcases d01 (gt_S G z t U True (gm_o G r) k → gt_M G z t (gm_o G r) k k ∨ gj_go G z t U k) with c | c
    · rw [(hZ _).1 c]
      exact Int.le_trans (X.2.2.1 r r0 r1) (gm_lr_mono X.1 r0 r1 (Int.le_refl _) up)
    · rw [(hZ _).2 c]
      refine Classical.byContradiction (fun lt => c (fun st2 => ?_))
      have lt : gm_lr G Z r 0 < 16777216 := by omega
      have u : U r := (X.2.2.2.2 r r0 r1).mpr (by have := gm_lr_mono X.1 r0 r1 (Int.le_refl 0) up; omega)
      have so := (X.1.2.2.2.2.1 r r0 r1).2.2.1
      -- the names of this rule have what is said
      have fin : ∀ d : Nat, (d : Int) ≤ gm_s G r → gm_lr G Z r d < 16777216 := by
        intro d
        induction d with
        | zero => exact fun _ => lt
        | succ d ih =>
          intro h
          have ih := ih (by omega)
          have b := gj_lr_s X.1 zr r0 r1 (d := (d : Int)) (by omega) (by omega)
          have e : (((d + 1 : Nat)) : Int) = (d : Int) + 1 := by omega
          rw [e]
          omega
      have each : ∀ d : Int, 0 ≤ d → d < gm_s G r → gm_n G r d ≠ -1 → Z (gm_n G r d) < 16777216 := fun d d0 d1 hn => by
        have a := fin d.toNat (by omega)
        have e : ((d.toNat : Nat) : Int) = d := by omega
        rw [e] at a
        have b := gj_ls_s (S := Z) d0 d1
        have c := gj_ls_nn X.1 zr r0 r1 (d := d + 1) (by omega)
        unfold gm_lr at a
        unfold gm_lv at b
        rw [if_neg hn] at b
        omega
      have go : ∀ (c : Nat) (d : Int), 0 ≤ d → d + c = gm_s G r → gt_row G z t (gt_M G z t) r d k k → gt_M G z t (gm_o G r) k k ∨ gj_go G z t U k := by
        intro c
        induction c with
        | zero =>
          intro d d0 e h
          have e2 : d = gm_s G r := by omega
          rw [e2] at h
          exact Or.inl (gt_M_cl r k k r0 r1 k0 k1 h)
        | succ c ih =>
          intro d d0 e h
          by_cases hn : gm_n G r d = -1
          · obtain ⟨l, l0, hl⟩ := gj_bit (gj_set X.1 r0 r1 d0 (by omega) hn).1
            exact Or.inr ⟨l, l0, r, k, d, ⟨r0, r1, u, st2⟩, d0, by omega, hn, hl, h⟩
          · have st3 := gt_S_cl.2 r d k k r0 r1 d0 (by omega) u hn k0 k1 st2 h
            have zn := each d d0 (by omega) hn
            have w : gt_S G z t U True (gm_n G r d) k → gt_M G z t (gm_n G r d) k k ∨ gj_go G z t U k := Classical.byContradiction (fun y => by
              have := (hZ _).2 y
              omega)
            rcases w st3 with m | m
            · exact ih (d + 1) (by omega) (by omega) ((gt_row_s d0).mpr ⟨k, h, Or.inr ⟨hn, m⟩⟩)
            · exact Or.inr m
      exact go (gm_s G r).toNat 0 (Int.le_refl _) (by omega) (gt_row_0.mpr rfl)
/-- letters that can be ended can be gone on with, or are a text: for each name that stands there -/
theorem gj_J (X : gj_X G S U) (z8 : z ≤ 8) (k1 : k ≤ z) (hP : gw_P G z t S k P) : ∀ (c : Nat) (i : Int), 0 ≤ i → i ≤ k → k - i ≤ c → ∀ n, 0 ≤ n → n < gm_N G → P n i < 16777216 → gt_S G z t U True n i → gt_M G z t n i k ∨ gj_go G z t U k
  | 0, i, i0, i1, ic, n, n0, n1, h, st => by
    have e : i = k := by omega
    rw [e] at st ⊢
    rw [e, hP.1 n n0 n1] at h
    exact gj_H X (by omega) k1 n n0 n1 h st
  | c + 1, i, i0, i1, ic, n, n0, n1, h, st => by
    by_cases q : i = k
    · exact gj_J X z8 k1 hP 0 i i0 i1 (by omega) n n0 n1 h st
    obtain ⟨f1, f2, f3⟩ := hP.2 i i0 (by omega)
    obtain ⟨sys, _⟩ := gw_sys X.1 (z := z) (t := t) X.2.1 (k := k) (i := i) (by omega) (P := P) (fun n e n0 n1 e0 e1 => gj_P_r X hP n0 n1 (by omega) (by omega))
    have d01 : ∀ p : Prop, p ∨ ¬ p := Classical.em
    obtain ⟨Z, hZ⟩ : ∃ Z : Int → Int, ∀ n, ((gt_S G z t U True n i → gt_M G z t n i k ∨ gj_go G z t U k) → Z n = P n i) ∧ (¬ (gt_S G z t U True n i → gt_M G z t n i k ∨ gj_go G z t U k) → Z n = 16777216) :=
      ⟨fun n => @ite Int (gt_S G z t U True n i → gt_M G z t n i k ∨ gj_go G z t U k) (Classical.propDecidable _) (P n i) 16777216, fun n => ⟨fun y => if_pos y, fun y => if_neg y⟩⟩
    have zr : gf_r (gm_N G) 16777216 Z := fun n n0 n1 => by
      rcases d01 (gt_S G z t U True n i → gt_M G z t n i k ∨ gj_go G z t U k) with c | c
      · rw [(hZ n).1 c]
        exact f1 n n0 n1
      · rw [(hZ n).2 c]
        decide
    have up : ∀ n, 0 ≤ n → n < gm_N G → P n i ≤ Z n := fun n n0 n1 => by
      rcases d01 (gt_S G z t U True n i → gt_M G z t n i k ∨ gj_go G z t U k) with c | c
      · rw [(hZ n).1 c]
        exact Int.le_refl _
      · rw [(hZ n).2 c]
        exact (f1 n n0 n1).2
    have le := f3 Z zr (fun r r0 r1 => ?_) n n0 n1
    · refine Classical.byContradiction (fun y => ?_)
      have := (hZ n).2 (fun w => y (w st))
      have : Z n ≤ P n i := le
      omega
    · have mono := sys.2.2 r (fun n => P n i) Z r0 r1 f1 zr up
      rcases d01 (gt_S G z t U True (gm_o G r) i → gt_M G z t (gm_o G r) i k ∨ gj_go G z t U k) with c0 | c0
      · rw [(hZ _).1 c0]
        exact Int.le_trans (f2 r r0 r1) mono
      · rw [(hZ _).2 c0]
        obtain ⟨g0, g1, g2, _⟩ := gmn_sp (A := gw_A G z t S k (fun n e => if e = i then Z n else P n e) r i (gm_s G r)) (K := 16777216) (by decide)
        show 16777216 ≤ gmn (gw_A G z t S k (fun n e => if e = i then Z n else P n e) r i (gm_s G r)) 16777216
        rcases g2 with g2 | g2
        · omega
        · generalize gmn (gw_A G z t S k (fun n e => if e = i then Z n else P n e) r i (gm_s G r)) 16777216 = w at g0 g1 g2 ⊢
          refine Classical.byContradiction (fun lt => c0 (fun st2 => ?_))
          obtain ⟨d, d0, d1, hd⟩ := g2
          have ln := gj_lr_nn X.1 X.2.1 r0 r1 (d := d + 1) (by omega)
          rcases hd with ⟨e, ie, ek, hn, row, hw⟩ | ⟨row, hw⟩
          · have rg := gj_n_rng X.1 r0 r1 d0 d1 hn
            have all : S (gm_n G r d) < 16777216 ∧ gm_lr G S r (d + 1) < 16777216 ∧ (U r → gt_M G z t (gm_n G r d) e k ∨ gj_go G z t U k) := by
              by_cases ei : e = i
              · have hw' : w = Z (gm_n G r d) + gm_lr G S r (d + 1) := by
                  rw [hw]
                  show (if e = i then Z (gm_n G r d) else P (gm_n G r d) e) + _ = _
                  rw [if_pos ei]
                have a := zr _ rg.1 rg.2
                have pr : gt_S G z t U True (gm_n G r d) i → gt_M G z t (gm_n G r d) i k ∨ gj_go G z t U k := Classical.byContradiction (fun y => by
                  have := (hZ _).2 y
                  omega)
                have pe := (hZ _).1 pr
                refine ⟨gj_PS X z8 k1 hP (c + 1) i i0 i1 ic _ rg.1 rg.2 (by omega), by omega, fun u => ?_⟩
                rw [ei] at row ⊢
                exact pr (gt_S_cl.2 r d i i r0 r1 d0 d1 u hn i0 (by omega) st2 row)
              · have hw' : w = P (gm_n G r d) e + gm_lr G S r (d + 1) := by
                  rw [hw]
                  show (if e = i then Z (gm_n G r d) else P (gm_n G r d) e) + _ = _
                  rw [if_neg ei]
                have a := gj_P_r X hP rg.1 rg.2 (i := e) (by omega) (by omega)
                exact ⟨gj_PS X z8 k1 hP c e (by omega) (by omega) (by omega) _ rg.1 rg.2 (by omega), by omega, fun u => gj_J X z8 k1 hP c e (by omega) (by omega) (by omega) _ rg.1 rg.2 (by omega) (gt_S_cl.2 r d i e r0 r1 d0 d1 u hn i0 (by omega) st2 row)⟩
            have u := gj_U_A X z8 r0 r1 d0 d1 i0 (by omega) row hn all.1 all.2.1
            rcases all.2.2 u with m | m
            · exact gj_along X (by omega) k1 (gj_H X (by omega) k1) r0 r1 u st2 i0 (by omega) (gm_s G r - (d + 1)).toNat (d + 1) (by omega) (by omega) ((gt_row_s d0).mpr ⟨e, row, Or.inr ⟨hn, m⟩⟩)
            · exact Or.inr m
          · have u := gj_U_row X z8 r0 r1 (d := d + 1) (by omega) (by omega) i0 (by omega) row (by omega)
            exact gj_along X (by omega) k1 (gj_H X (by omega) k1) r0 r1 u st2 i0 (by omega) (gm_s G r - (d + 1)).toNat (d + 1) (by omega) (by omega) row
theorem gj_S00 : gt_S G z t U True 0 0 := gt_S_cl.1 trivial
/-- letters can be ended just where one may come, or they are a text -/
theorem gj_endN (X : gj_X G S U) (z8 : z ≤ 8) (k0 : 0 ≤ k) (k1 : k ≤ z) (hP : gw_P G z t S k P) : P 0 0 < 16777216 ↔ gj_go G z t U k ∨ gt_M G z t 0 0 k := by
  have hN := X.1.1
  refine ⟨fun h => (gj_J X z8 k1 hP k.toNat 0 (Int.le_refl _) k0 (by omega) 0 (Int.le_refl _) (by omega) h gj_S00).symm, fun h => ?_⟩
  rcases h with ⟨c, c0, r, i, d, ⟨r0, r1, u, st⟩, d0, d1, hn, hb, row⟩ | h
  · have rg := gt_S_rng X.1 (by omega) st
    have ik := gt_row_M X.1 rg.2.2.2 row
    have a := gw_Y X.1 X.2.1 X.2.2.1 hP r0 r1 d0 (by omega) rg.2.2.1 ik.1 row
    have b := gj_lr_U X r0 r1 d0 (by omega) u
    exact gj_up X z8 k1 hP st ik.1 (by omega)
  · rw [(gj_end0 X k0 k1 hP).mpr h]
    decide
/-- the letter k, found along a row -/
theorem gj_letter (X : gj_X G S U) {A : Int → Int → Int → Prop} (hA : ∀ n p q, A n p q → gt_M G z t n p q) (k0 : 0 ≤ k) (kz : k < z) (hN : ∀ n p, A n p (k + 1) → p ≤ k → gt_S G z t U True n p → gt_nx G z t (gj_PR G z t U) k (t k)) {r i : Int} (r0 : 0 ≤ r) (r1 : r < gm_R G) (u : U r) (i0 : 0 ≤ i) (ik : i ≤ k) (st : gt_S G z t U True (gm_o G r) i) : ∀ d : Nat, (d : Int) ≤ gm_s G r → gt_rw (gt_pm G z t A r) d i (k + 1) → gt_nx G z t (gj_PR G z t U) k (t k)
  | 0, _, h => by
    have : i = k + 1 := h
    omega
  | d + 1, hd, ⟨p, h1, h2⟩ => by
    have toM : gt_row G z t (gt_M G z t) r d i p := by
      have e : ((d : Int)).toNat = d := by omega
      unfold gt_row
      rw [e]
      exact gt_rw_mono d i p (fun e p q _ _ => gt_pm_mono (fun _ => hA _ _ _)) h1
    by_cases c : p = k + 1
    · rw [c] at h1
      exact gj_letter X hA k0 kz hN r0 r1 u i0 ik st d (by omega) h1
    · rcases h2 with ⟨hn, e, pz, hb⟩ | ⟨hn, h2⟩
      · have ep : p = k := by omega
        rw [ep] at hb toM
        exact ⟨r, i, d, ⟨r0, r1, u, st⟩, by omega, by omega, hn, hb, toM⟩
      · have rg := gt_M_rng X.1 (hA _ _ _ h2)
        exact hN _ p h2 (by omega) (gt_S_cl.2 r d i p r0 r1 (by omega) (by omega) u hn i0 (by omega) st toM)
theorem gj_letterM (X : gj_X G S U) (z8 : z ≤ 8) (k0 : 0 ≤ k) (kz : k < z) {n p : Int} (h : gt_M G z t n p (k + 1)) (pk : p ≤ k) (st : gt_S G z t U True n p) : gt_nx G z t (gj_PR G z t U) k (t k) := by
  have h2 := h (fun n p j => gt_M G z t n p j ∧ (j = k + 1 → p ≤ k → gt_S G z t U True n p → gt_nx G z t (gj_PR G z t U) k (t k))) (fun r i j r0 r1 i0 i1 w => by
    have w2 := gt_row_mono (B := gt_M G z t) (fun _ _ _ _ _ _ y => y.1) w
    refine ⟨gt_M_cl r i j r0 r1 i0 i1 w2, fun ej ik st => ?_⟩
    have so := (X.1.2.2.2.2.1 r r0 r1).2.2.1
    have u := gj_U_row X z8 r0 r1 so (Int.le_refl _) i0 i1 w2 (by rw [gj_lr_end]; decide)
    rw [ej] at w
    exact gj_letter X (fun _ _ _ y => y.1) k0 kz (fun n p y pk st => y.2 rfl pk st) r0 r1 u i0 ik st (gm_s G r).toNat (by omega) w)
  exact h2.2 rfl pk st
theorem gj_K1 (X : gj_X G S U) (z8 : z ≤ 8) (k0 : 0 ≤ k) (kz : k < z) (hP : gw_P G z t S (k + 1) P) : ∀ i : Int, 0 ≤ i → i ≤ k → (∀ e : Int, i < e → e ≤ k → ∀ n, 0 ≤ n → n < gm_N G → P n e < 16777216 → gt_S G z t U True n e → gt_nx G z t (gj_PR G z t U) k (t k)) → ∀ n, 0 ≤ n → n < gm_N G → P n i < 16777216 → gt_S G z t U True n i → gt_nx G z t (gj_PR G z t U) k (t k) := by
  intro i i0 i1 later n n0 n1 h st
  obtain ⟨f1, f2, f3⟩ := hP.2 i i0 (by omega)
  obtain ⟨sys, _⟩ := gw_sys X.1 (z := z) (t := t) X.2.1 (k := k + 1) (i := i) (by omega) (P := P) (fun n e n0 n1 e0 e1 => gj_P_r X hP n0 n1 (by omega) (by omega))
  have d01 : ∀ p : Prop, p ∨ ¬ p := Classical.em
  obtain ⟨Z, hZ⟩ : ∃ Z : Int → Int, ∀ n, ((gt_S G z t U True n i → gt_nx G z t (gj_PR G z t U) k (t k)) → Z n = P n i) ∧ (¬ (gt_S G z t U True n i → gt_nx G z t (gj_PR G z t U) k (t k)) → Z n = 16777216) :=
    ⟨fun n => @ite Int (gt_S G z t U True n i → gt_nx G z t (gj_PR G z t U) k (t k)) (Classical.propDecidable _) (P n i) 16777216, fun n => ⟨fun y => if_pos y, fun y => if_neg y⟩⟩
  have zr : gf_r (gm_N G) 16777216 Z := fun n n0 n1 => by
    rcases d01 (gt_S G z t U True n i → gt_nx G z t (gj_PR G z t U) k (t k)) with c | c
    · rw [(hZ n).1 c]
      exact f1 n n0 n1
    · rw [(hZ n).2 c]
      decide
  have up : ∀ n, 0 ≤ n → n < gm_N G → P n i ≤ Z n := fun n n0 n1 => by
    rcases d01 (gt_S G z t U True n i → gt_nx G z t (gj_PR G z t U) k (t k)) with c | c
    · rw [(hZ n).1 c]
      exact Int.le_refl _
    · rw [(hZ n).2 c]
      exact (f1 n n0 n1).2
  have le := f3 Z zr (fun r r0 r1 => ?_) n n0 n1
  · refine Classical.byContradiction (fun y => ?_)
    have := (hZ n).2 (fun w => y (w st))
    have : Z n ≤ P n i := le
    omega
  · have mono := sys.2.2 r (fun n => P n i) Z r0 r1 f1 zr up
    rcases d01 (gt_S G z t U True (gm_o G r) i → gt_nx G z t (gj_PR G z t U) k (t k)) with c0 | c0
    · rw [(hZ _).1 c0]
      exact Int.le_trans (f2 r r0 r1) mono
    · rw [(hZ _).2 c0]
      obtain ⟨g0, g1, g2, _⟩ := gmn_sp (A := gw_A G z t S (k + 1) (fun n e => if e = i then Z n else P n e) r i (gm_s G r)) (K := 16777216) (by decide)
      show 16777216 ≤ gmn (gw_A G z t S (k + 1) (fun n e => if e = i then Z n else P n e) r i (gm_s G r)) 16777216
      rcases g2 with g2 | g2
      · omega
      · generalize gmn (gw_A G z t S (k + 1) (fun n e => if e = i then Z n else P n e) r i (gm_s G r)) 16777216 = w at g0 g1 g2 ⊢
        refine Classical.byContradiction (fun lt => c0 (fun st2 => ?_))
        obtain ⟨d, d0, d1, hd⟩ := g2
        have ln := gj_lr_nn X.1 X.2.1 r0 r1 (d := d + 1) (by omega)
        rcases hd with ⟨e, ie, ek, hn, row, hw⟩ | ⟨row, hw⟩
        · have rg := gj_n_rng X.1 r0 r1 d0 d1 hn
          have all : S (gm_n G r d) < 16777216 ∧ gm_lr G S r (d + 1) < 16777216 ∧ (U r → gt_nx G z t (gj_PR G z t U) k (t k)) := by
            by_cases ei : e = i
            · have hw' : w = Z (gm_n G r d) + gm_lr G S r (d + 1) := by
                rw [hw]
                show (if e = i then Z (gm_n G r d) else P (gm_n G r d) e) + _ = _
                rw [if_pos ei]
              have a := zr _ rg.1 rg.2
              have pr : gt_S G z t U True (gm_n G r d) i → gt_nx G z t (gj_PR G z t U) k (t k) := Classical.byContradiction (fun y => by
                have := (hZ _).2 y
                omega)
              have pe := (hZ _).1 pr
              refine ⟨gj_PS X z8 (k := k + 1) (by omega) hP (k + 1 - i).toNat i i0 (by omega) (by omega) _ rg.1 rg.2 (by omega), by omega, fun u => ?_⟩
              rw [ei] at row
              exact pr (gt_S_cl.2 r d i i r0 r1 d0 d1 u hn i0 (by omega) st2 row)
            · have hw' : w = P (gm_n G r d) e + gm_lr G S r (d + 1) := by
                rw [hw]
                show (if e = i then Z (gm_n G r d) else P (gm_n G r d) e) + _ = _
                rw [if_neg ei]
              have a := gj_P_r X hP rg.1 rg.2 (i := e) (by omega) (by omega)
              exact ⟨gj_PS X z8 (k := k + 1) (by omega) hP (k + 1 - e).toNat e (by omega) (by omega) (by omega) _ rg.1 rg.2 (by omega), by omega, fun u => later e (by omega) (by omega) _ rg.1 rg.2 (by omega) (gt_S_cl.2 r d i e r0 r1 d0 d1 u hn i0 (by omega) st2 row)⟩
          exact all.2.2 (gj_U_A X z8 r0 r1 d0 d1 i0 (by omega) row hn all.1 all.2.1)
        · have u := gj_U_row X z8 r0 r1 (d := d + 1) (by omega) (by omega) i0 (by omega) row (by omega)
          exact gj_letter X (fun _ _ _ y => y) k0 kz (fun n p y pk st => gj_letterM X z8 k0 kz y pk st) r0 r1 u i0 i1 st2 (d + 1).toNat (by omega) row
/-- one letter more can be ended: the letter may come -/
theorem gj_K (X : gj_X G S U) (z8 : z ≤ 8) (k0 : 0 ≤ k) (kz : k < z) (hP : gw_P G z t S (k + 1) P) : ∀ (c : Nat) (i : Int), 0 ≤ i → i ≤ k → k - i ≤ c → ∀ n, 0 ≤ n → n < gm_N G → P n i < 16777216 → gt_S G z t U True n i → gt_nx G z t (gj_PR G z t U) k (t k) := by
  intro c
  induction c with
  | zero => exact fun i i0 i1 ic => gj_K1 X z8 k0 kz hP i i0 i1 (fun e e0 e1 => by omega)
  | succ c ih => exact fun i i0 i1 ic => gj_K1 X z8 k0 kz hP i i0 i1 (fun e e0 e1 => ih e (by omega) (by omega) (by omega))
theorem gj_endK (X : gj_X G S U) (z8 : z ≤ 8) (k0 : 0 ≤ k) (kz : k < z) (hP : gw_P G z t S (k + 1) P) : P 0 0 < 16777216 ↔ gt_nx G z t (gj_PR G z t U) k (t k) := by
  have hN := X.1.1
  refine ⟨fun h => gj_K X z8 k0 kz hP k.toNat 0 (Int.le_refl _) k0 (by omega) 0 (Int.le_refl _) (by omega) h gj_S00, fun h => ?_⟩
  obtain ⟨r, i, d, ⟨r0, r1, u, st⟩, d0, d1, hn, hb, row⟩ := h
  have rg := gt_S_rng X.1 (by omega) st
  have ik := gt_row_M X.1 rg.2.2.2 row
  have row2 : gt_row G z t (gt_M G z t) r (d + 1) i (k + 1) := (gt_row_s d0).mpr ⟨k, row, Or.inl ⟨hn, rfl, kz, hb⟩⟩
  have a := gw_Y X.1 X.2.1 X.2.2.1 hP r0 r1 (d := d + 1) (by omega) (by omega) rg.2.2.1 (by omega) row2
  have b := gj_lr_U X r0 r1 (d := d + 1) (by omega) (by omega) u
  exact gj_up X z8 (k := k + 1) (by omega) hP st (by omega) (by omega)
/-- where letters can be ended there is an item -/
theorem gj_items (X : gj_X G S U) (z0 : 0 ≤ z) (z8 : z ≤ 8) (h : gj_go G z t U k ∨ gt_M G z t 0 0 k) : 1 ≤ gt_isum G z t (fun r i => 0 ≤ r ∧ r < gm_R G ∧ gt_S G z t (fun _ => True) True (gm_o G r) i) k := by
  have hR := X.1.2.2.2.1
  obtain ⟨r, i, d, r0, r1, st, d0, d1, row⟩ : ∃ r i d, 0 ≤ r ∧ r < gm_R G ∧ gt_S G z t (fun _ => True) True (gm_o G r) i ∧ 0 ≤ d ∧ d ≤ gm_s G r ∧ gt_row G z t (gt_M G z t) r d i k := by
    rcases h with ⟨c, c0, r, i, d, ⟨r0, r1, u, st⟩, d0, d1, hn, hb, row⟩ | h
    · refine ⟨r, i, d, r0, r1, ?_, d0, by omega, row⟩
      exact st (gt_S G z t (fun _ => True) True) ⟨fun _ => gt_S_cl.1 trivial, fun r d i j r0 r1 d0 d1 _ hn i0 i1 y w => gt_S_cl.2 r d i j r0 r1 d0 d1 trivial hn i0 i1 y w⟩
    · obtain ⟨r, r0, r1, ro, _, _, w⟩ := gj_inv h
      refine ⟨r, 0, gm_s G r, r0, r1, ?_, (X.1.2.2.2.2.1 r r0 r1).2.2.1, Int.le_refl _, w⟩
      rw [ro]
      exact gt_S_cl.1 trivial
  have rg := gt_S_rng X.1 z0 st
  unfold gt_isum
  have nn : ∀ x : Int, 0 ≤ x → x < ((180 : Nat) : Int) → 0 ≤ gt_if (0 ≤ x % 20 ∧ x % 20 < gm_R G ∧ gt_S G z t (fun _ => True) True (gm_o G (x % 20)) (x / 20)) (gt_ic G z t (x % 20) (x / 20) k (gm_s G (x % 20) + 1).toNat) := fun x _ _ => by
    by_cases c : 0 ≤ x % 20 ∧ x % 20 < gm_R G ∧ gt_S G z t (fun _ => True) True (gm_o G (x % 20)) (x / 20)
    · rw [gt_if_t c]
      exact (gt_ic_b _).1
    · rw [gt_if_f c]
      exact Int.le_refl _
  have big := gsum_ge 180 nn (20 * i + r) (by omega) (by omega)
  have e1 : (20 * i + r) % 20 = r := by omega
  have e2 : (20 * i + r) / 20 = i := by omega
  rw [e1, e2, gt_if_t ⟨r0, r1, st⟩] at big
  have one := gsum_ge (f := fun e => gt_ib (gt_row G z t (gt_M G z t) r e i k)) (gm_s G r + 1).toNat (fun e _ _ => by
    show 0 ≤ gt_ib (gt_row G z t (gt_M G z t) r e i k)
    rcases gt_ib_01 (P := gt_row G z t (gt_M G z t) r e i k) with q | q
    · rw [q]
      decide
    · rw [q]
      decide) d d0 (by omega)
  have one : gt_ib (gt_row G z t (gt_M G z t) r d i k) ≤ gt_ic G z t r i k (gm_s G r + 1).toNat := one
  rw [gt_ib_t row] at one
  exact Int.le_trans one big
theorem gj_items_nn {k : Int} {PR : Int → Int → Prop} : 0 ≤ gt_isum G z t PR k := by
  unfold gt_isum
  refine gsum_nn 180 (fun x _ _ => ?_)
  by_cases c : PR (x % 20) (x / 20)
  · rw [gt_if_t c]
    exact (gt_ic_b _).1
  · rw [gt_if_f c]
    exact Int.le_refl _
end G21
