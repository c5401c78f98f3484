/-- a node that is still to be told: a letter (below 0), or a name, its letters, the names above it, how high it stands, the number of its tree -/
abbrev gp_nd : Type := Int × Int × Int × Int × Int × Int
def gp_le (a : Int) : gp_nd := (a, 0, 0, 0, 0, 0)
def gp_na (n i j B lv k : Int) : gp_nd := (n, i, j, B, lv, k)
theorem gsum_step {F : Int → Int} {a b : Nat} (h : ∀ i : Int, 0 ≤ i → i < b → 0 ≤ F i) (ab : a < b) : gsum F a + F a ≤ gsum F b := by
  have : ∀ c : Nat, a + 1 + c ≤ b → gsum F a + F a ≤ gsum F (a + 1 + c) := by
    intro c
    induction c with
    | zero => exact fun _ => Int.le_refl _
    | succ c ih =>
      intro hc
      have h1 := ih (by omega)
      have h2 := h ((a + 1 + c : Nat) : Int) (by omega) (by omega)
      show gsum F a + F a ≤ gsum F (a + 1 + c) + F ((a + 1 + c : Nat) : Int)
      omega
  have e : a + 1 + (b - (a + 1)) = b := by omega
  have := this (b - (a + 1)) (by omega)
  rw [e] at this
  exact this
theorem gsum_uniq {F : Int → Int} {a b : Nat} {x y : Int} (h : ∀ i : Int, 0 ≤ i → i < max a b → 0 ≤ F i) (x0 : 0 ≤ x) (x1 : x < F a) (y0 : 0 ≤ y) (y1 : y < F b) (e : gsum F a + x = gsum F b + y) : a = b ∧ x = y := by
  have ab : a = b := by
    rcases Nat.lt_trichotomy a b with q | q | q
    · have := gsum_step (F := F) (a := a) (b := b) (fun i i0 i1 => h i i0 (by omega)) q
      omega
    · exact q
    · have := gsum_step (F := F) (a := b) (b := a) (fun i i0 i1 => h i i0 (by omega)) q
      omega
  subst ab
  exact ⟨rfl, by omega⟩
noncomputable def gp_F (G : gm_G) (z : Int) (t : Int → Int) (n i j A r : Int) : Int := gt_if (gm_o G r = n) (gk_R G z t r i j (gb A) 0 i)
/-- the rule of a name by the number of a tree -/
def gp_rule (G : gm_G) (z : Int) (t : Int → Int) (n i j A k r k2 : Int) : Prop := 0 ≤ r ∧ r < gm_R G ∧ gm_o G r = n ∧ k = gsum (gp_F G z t n i j A) r.toNat + k2 ∧ 0 ≤ k2 ∧ k2 < gk_R G z t r i j (gb A) 0 i
noncomputable def gp_H (G : gm_G) (z : Int) (t : Int → Int) (r i j A d p x : Int) : Int := min (gk_own G z t (gk_C G z t) r i j (gb A) d p (p + x) * gk_R G z t r i j (gb A) (d + 1) (p + x)) 1000000000000000000
/-- where a part ends -/
def gp_cut (G : gm_G) (z : Int) (t : Int → Int) (r i j A d p l q l2 : Int) : Prop := p ≤ q ∧ q ≤ j ∧ l = gsum (gp_H G z t r i j A d p) (q - p).toNat + l2 ∧ 0 ≤ l2 ∧ l2 < gp_H G z t r i j A d p (q - p)
theorem gp_F_nn {G : gm_G} (hG : gm_ok G) {z : Int} {t : Int → Int} {n i j A r : Int} (r0 : 0 ≤ r) (r1 : r < gm_R G) : 0 ≤ gp_F G z t n i j A r := by
  unfold gp_F
  by_cases q : gm_o G r = n
  · rw [gt_if_t q]
    exact (gk_R_b hG r0 r1 (Int.le_refl _)).1
  · rw [gt_if_f q]
    exact Int.le_refl _
theorem gp_H_nn {G : gm_G} (hG : gm_ok G) {z : Int} {t : Int → Int} {r i j A d p x : Int} (r0 : 0 ≤ r) (r1 : r < gm_R G) (d0 : 0 ≤ d) : 0 ≤ gp_H G z t r i j A d p x := by
  have a := gk_own_nn (G := G) (z := z) (t := t) (T := gk_C G z t) (fun n i j A => (gk_C_b hG n i j A).1) r i j (gb A) d p (p + x)
  have b := (gk_R_b hG (z := z) (t := t) (i := i) (j := j) (B := gb A) (d := d + 1) (k := p + x) r0 r1 (by omega)).1
  have := Int.mul_nonneg a b
  unfold gp_H
  omega
theorem gp_rule_u {G : gm_G} (hG : gm_ok G) {z : Int} {t : Int → Int} {n i j A k r k2 r' k2' : Int} (h1 : gp_rule G z t n i j A k r k2) (h2 : gp_rule G z t n i j A k r' k2') : r = r' ∧ k2 = k2' := by
  obtain ⟨a1, a2, a3, a4, a5, a6⟩ := h1
  obtain ⟨b1, b2, b3, b4, b5, b6⟩ := h2
  have e1 : ((r.toNat : Nat) : Int) = r := by omega
  have e2 : ((r'.toNat : Nat) : Int) = r' := by omega
  have u := gsum_uniq (F := gp_F G z t n i j A) (a := r.toNat) (b := r'.toNat) (x := k2) (y := k2') (fun x x0 x1 => gp_F_nn hG x0 (by omega)) a5 (by
    rw [e1]
    unfold gp_F
    rw [gt_if_t a3]
    exact a6) b5 (by
    rw [e2]
    unfold gp_F
    rw [gt_if_t b3]
    exact b6) (by rw [← a4, ← b4])
  exact ⟨by omega, u.2⟩
theorem gp_cut_u {G : gm_G} (hG : gm_ok G) {z : Int} {t : Int → Int} {r i j A d p l q l2 q' l2' : Int} (r0 : 0 ≤ r) (r1 : r < gm_R G) (d0 : 0 ≤ d) (h1 : gp_cut G z t r i j A d p l q l2) (h2 : gp_cut G z t r i j A d p l q' l2') : q = q' ∧ l2 = l2' := by
  obtain ⟨a1, a2, a3, a4, a5⟩ := h1
  obtain ⟨b1, b2, b3, b4, b5⟩ := h2
  have e1 : (((q - p).toNat : Nat) : Int) = q - p := by omega
  have e2 : (((q' - p).toNat : Nat) : Int) = q' - p := by omega
  have u := gsum_uniq (F := gp_H G z t r i j A d p) (a := (q - p).toNat) (b := (q' - p).toNat) (x := l2) (y := l2') (fun x x0 x1 => gp_H_nn hG r0 r1 d0) a4 (by rw [e1]; exact a5) b4 (by rw [e2]; exact b5) (by rw [← a3, ← b3])
  exact ⟨by omega, u.2⟩
def gp_kid (G : gm_G) (t : Int → Int) (r i j A lv d p q sh : Int) : gp_nd := if gm_n G r d = -1 then gp_le (-1 - t p) else gp_na (gm_n G r d) p q (if p = i ∧ q = j then A else 0) lv sh
/-- the last c parts of a rule, from p on, by a number -/
def gp_kids (G : gm_G) (z : Int) (t : Int → Int) (r i j A lv : Int) : Nat → Int → Int → List gp_nd → Prop
  | 0, _, _, L => L = []
  | c + 1, p, l, L => ∃ q l2 L2, gp_cut G z t r i j A (gm_s G r - ((c : Int) + 1)) p l q l2 ∧ L = gp_kid G t r i j A lv (gm_s G r - ((c : Int) + 1)) p q (l2 / gk_R G z t r i j (gb A) (gm_s G r - c) q) :: L2 ∧ gp_kids G z t r i j A lv c q (l2 % gk_R G z t r i j (gb A) (gm_s G r - c) q) L2
theorem gp_kids_u {G : gm_G} (hG : gm_ok G) {z : Int} {t : Int → Int} {r i j A lv : Int} (r0 : 0 ≤ r) (r1 : r < gm_R G) : ∀ (c : Nat) (p l : Int) (L L2 : List gp_nd), (c : Int) ≤ gm_s G r → gp_kids G z t r i j A lv c p l L → gp_kids G z t r i j A lv c p l L2 → L = L2
  | 0, _, _, _, _, _, h1, h2 => h1.trans h2.symm
  | c + 1, p, l, L, L2, hc, h1, h2 => by
    obtain ⟨q, l2, M, a1, a2, a3⟩ := h1
    obtain ⟨q', l2', M', b1, b2, b3⟩ := h2
    obtain ⟨e1, e2⟩ := gp_cut_u hG r0 r1 (by omega) a1 b1
    subst e1
    subst e2
    rw [a2, b2, gp_kids_u hG r0 r1 c q _ M M' (by omega) a3 b3]
/-- one step: what is told, how high names stand -/
def gp_step (G : gm_G) (z : Int) (t : Int → Int) : List gp_nd → Int → Int → Int → List gp_nd → Prop
  | [], _, _, _, _ => False
  | (n, i, j, B, lv, k) :: L, e, dp, dp2, L2 => (n < 0 → e = n ∧ dp2 = dp ∧ L2 = L) ∧ (¬ n < 0 → dp2 = max dp lv ∧ ∃ k2 K, gp_rule G z t n i j (gh_ior_f B (gh_ishl_f 1 n)) k e k2 ∧ gp_kids G z t e i j (gh_ior_f B (gh_ishl_f 1 n)) (lv + 1) (gm_s G e).toNat i k2 K ∧ L2 = K ++ L)
theorem gp_step_u {G : gm_G} (hG : gm_ok G) {z : Int} {t : Int → Int} {L L2 L2' : List gp_nd} {e e' dp dp2 dp2' : Int} (h1 : gp_step G z t L e dp dp2 L2) (h2 : gp_step G z t L e' dp dp2' L2') : e = e' ∧ dp2 = dp2' ∧ L2 = L2' := by
  cases L with
  | nil => exact False.elim h1
  | cons nd L =>
    obtain ⟨n, i, j, B, lv, k⟩ := nd
    by_cases c : n < 0
    · have x1 := h1.1 c
      have x2 := h2.1 c
      exact ⟨x1.1.trans x2.1.symm, x1.2.1.trans x2.2.1.symm, x1.2.2.trans x2.2.2.symm⟩
    · obtain ⟨a1, k2, K, a2, a3, a4⟩ := h1.2 c
      obtain ⟨b1, k2', K', b2, b3, b4⟩ := h2.2 c
      obtain ⟨e1, e2⟩ := gp_rule_u hG a2 b2
      subst e1
      subst e2
      have p := (hG.2.2.2.2.1 e a2.1 a2.2.1).2.2.1
      have kk := gp_kids_u hG a2.1 a2.2.1 _ i k2 K K' (by omega) a3 b3
      exact ⟨rfl, a1.trans b1.symm, by rw [a4, b4, kk]⟩
def gp_run (G : gm_G) (z : Int) (t : Int → Int) (k : Int) : Nat → (Int → Int) → Int → List gp_nd → Prop
  | 0, _, dp, L => dp = 0 ∧ L = [gp_na 0 0 z 0 1 k]
  | u + 1, tr, dp, L => ∃ dp0 L0, gp_run G z t k u tr dp0 L0 ∧ gp_step G z t L0 (tr u) dp0 dp L
theorem gp_run_u {G : gm_G} (hG : gm_ok G) {z : Int} {t : Int → Int} {k : Int} : ∀ (u : Nat) (tr tr2 : Int → Int) (dp dp2 : Int) (L L2 : List gp_nd), gp_run G z t k u tr dp L → gp_run G z t k u tr2 dp2 L2 → dp = dp2 ∧ L = L2 ∧ ∀ x : Int, 0 ≤ x → x < u → tr x = tr2 x
  | 0, _, _, _, _, _, _, h1, h2 => ⟨h1.1.trans h2.1.symm, h1.2.trans h2.2.symm, fun x a b => by omega⟩
  | u + 1, tr, tr2, dp, dp2, L, L2, h1, h2 => by
    obtain ⟨d0, L0, a1, a2⟩ := h1
    obtain ⟨d0', L0', b1, b2⟩ := h2
    obtain ⟨e1, e2, e3⟩ := gp_run_u hG u tr tr2 d0 d0' L0 L0' a1 b1
    subst e1
    subst e2
    obtain ⟨f1, f2, f3⟩ := gp_step_u hG a2 b2
    refine ⟨f2, f3, fun x x0 x1 => ?_⟩
    by_cases q : x = u
    · rw [q]
      exact f1
    · exact e3 x x0 (by omega)
theorem gp_run_cg {G : gm_G} {z : Int} {t : Int → Int} {k : Int} : ∀ (u : Nat) (tr tr2 : Int → Int) (dp : Int) (L : List gp_nd), (∀ x : Int, 0 ≤ x → x < u → tr x = tr2 x) → gp_run G z t k u tr dp L → gp_run G z t k u tr2 dp L
  | 0, _, _, _, _, _, h => h
  | u + 1, tr, tr2, dp, L, hx, h => by
    obtain ⟨d0, L0, a1, a2⟩ := h
    refine ⟨d0, L0, gp_run_cg u tr tr2 d0 L0 (fun x x0 x1 => hx x x0 (by omega)) a1, ?_⟩
    rw [← hx u (by omega) (by omega)]
    exact a2

