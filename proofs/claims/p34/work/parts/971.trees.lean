/-- the ways of the last n parts of a row of s to make the letters from k up to j -/
def gk_W (own : Int → Int → Int → Int) (s j : Int) : Nat → Int → Int
  | 0, k => if k = j then 1 else 0
  | n + 1, k => min (gsum (fun x => min (own (s - ((n : Int) + 1)) k (k + x) * gk_W own s j n (k + x)) 1000000000000000000) (j + 1 - k).toNat) 1000000000000000000
noncomputable def gk_own (G : gm_G) (z : Int) (t : Int → Int) (T : Int → Int → Int → (Int → Prop) → Int) (r i j : Int) (B : Int → Prop) (d k e : Int) : Int := if gm_n G r d = -1 then gt_ib (e = k + 1 ∧ k < z ∧ gb (gm_p G r d) (t k)) else if k = i ∧ e = j then T (gm_n G r d) i j B else T (gm_n G r d) k e (fun _ => False)
noncomputable def gk_T (G : gm_G) (z : Int) (t : Int → Int) : Nat → Int → Int → Int → (Int → Prop) → Int
  | 0, _, _, _, _ => 0
  | f + 1, n, i, j, A => gt_if (¬ A n ∧ gt_M G z t n i j) (min (gsum (fun r => gt_if (gm_o G r = n) (gk_W (gk_own G z t (gk_T G z t f) r i j (fun x => A x ∨ x = n)) (gm_s G r) j (gm_s G r).toNat i)) (gm_R G).toNat) 1000000000000000000)
theorem gk_W_cg {own own2 : Int → Int → Int → Int} {s j i : Int} : ∀ (n : Nat) (k : Int), (n : Int) ≤ s → i ≤ k → (∀ d k e, s - n ≤ d → d < s → i ≤ k → k ≤ e → e ≤ j → own d k e = own2 d k e) → gk_W own s j n k = gk_W own2 s j n k
  | 0, _, _, _, _ => rfl
  | n + 1, k, hn, ik, h => by
    have e : gsum (fun x => min (own (s - ((n : Int) + 1)) k (k + x) * gk_W own s j n (k + x)) 1000000000000000000) (j + 1 - k).toNat = gsum (fun x => min (own2 (s - ((n : Int) + 1)) k (k + x) * gk_W own2 s j n (k + x)) 1000000000000000000) (j + 1 - k).toNat := by
      refine gsum_cg _ (fun x x0 x1 => ?_)
      (try dsimp only)
      rw [h (s - ((n : Int) + 1)) k (k + x) (by omega) (by omega) ik (by omega) (by omega), gk_W_cg n (k + x) (by omega) (by omega) (fun d k e d0 d1 => h d k e (by omega) d1)]
    show min _ _ = min _ _
    rw [e]
theorem gk_W_b {own : Int → Int → Int → Int} {s j i : Int} : ∀ (n : Nat) (k : Int), (n : Int) ≤ s → i ≤ k → (∀ d k e, s - n ≤ d → d < s → i ≤ k → k ≤ e → e ≤ j → 0 ≤ own d k e) → 0 ≤ gk_W own s j n k ∧ gk_W own s j n k ≤ 1000000000000000000
  | 0, k, _, _, _ => by
    show 0 ≤ (if k = j then (1 : Int) else 0) ∧ (if k = j then (1 : Int) else 0) ≤ 1000000000000000000
    split <;> decide
  | n + 1, k, hn, ik, h => by
    have e := gsum_nn (f := fun x => min (own (s - ((n : Int) + 1)) k (k + x) * gk_W own s j n (k + x)) 1000000000000000000) (j + 1 - k).toNat (fun x x0 x1 => by
      have a := h (s - ((n : Int) + 1)) k (k + x) (by omega) (by omega) ik (by omega) (by omega)
      have b := (gk_W_b n (k + x) (by omega) (by omega) (fun d k e d0 d1 => h d k e (by omega) d1)).1
      have c := Int.mul_nonneg a b
      (try dsimp only)
      omega)
    show 0 ≤ min _ _ ∧ min _ _ ≤ _
    omega
theorem gk_own_nn {G : gm_G} {z : Int} {t : Int → Int} {T : Int → Int → Int → (Int → Prop) → Int} (hT : ∀ n i j A, 0 ≤ T n i j A) (r i j : Int) (B : Int → Prop) (d k e : Int) : 0 ≤ gk_own G z t T r i j B d k e := by
  unfold gk_own
  have f01 := gt_ib_01 (P := e = k + 1 ∧ k < z ∧ gb (gm_p G r d) (t k))
  split
  · omega
  · split <;> exact hT _ _ _ _
theorem gk_T_b {G : gm_G} (hG : gm_ok G) {z : Int} {t : Int → Int} : ∀ (f : Nat) (n i j : Int) (A : Int → Prop), 0 ≤ gk_T G z t f n i j A ∧ gk_T G z t f n i j A ≤ 1000000000000000000
  | 0, _, _, _, _ => ⟨Int.le_refl _, by show (0 : Int) ≤ _; decide⟩
  | f + 1, n, i, j, A => by
    have e := gsum_nn (f := fun r => gt_if (gm_o G r = n) (gk_W (gk_own G z t (gk_T G z t f) r i j (fun x => A x ∨ x = n)) (gm_s G r) j (gm_s G r).toNat i)) (gm_R G).toNat (fun r r0 r1 => by
      have p := (hG.2.2.2.2.1 r r0 (by omega)).2.2.1
      (try dsimp only)
      by_cases c : gm_o G r = n
      · rw [gt_if_t c]
        exact (gk_W_b (i := i) _ i (by omega) (Int.le_refl _) (fun d k e _ _ _ _ _ => gk_own_nn (fun n i j A => (gk_T_b hG f n i j A).1) r i j _ d k e)).1
      · rw [gt_if_f c]
        exact Int.le_refl _)
    show 0 ≤ gt_if (¬ A n ∧ gt_M G z t n i j) (min _ _) ∧ gt_if (¬ A n ∧ gt_M G z t n i j) (min _ _) ≤ _
    by_cases c : ¬ A n ∧ gt_M G z t n i j
    · rw [gt_if_t c]
      omega
    · rw [gt_if_f c]
      decide
/-- how many names are not in a set; it and how many letters bound the way down -/
noncomputable def gk_fr (A : Int → Prop) : Nat := gct (fun x => @decide (¬ A x) (Classical.propDecidable _)) 8
theorem gk_fr_le (A : Int → Prop) : gk_fr A ≤ 8 := gct_le _ _
theorem gk_fr_lt {A B : Int → Prop} (h : ∀ x, A x → B x) {n : Int} (n0 : 0 ≤ n) (n1 : n < 8) (a : ¬ A n) (b : B n) : gk_fr B < gk_fr A := by
  refine gct_lt 8 (fun x x0 x1 p => ?_) n n0 n1 ?_ ?_
  · have p2 := @of_decide_eq_true _ (Classical.propDecidable _) p
    exact @decide_eq_true _ (Classical.propDecidable _) (fun y => p2 (h x y))
  · exact @decide_eq_true _ (Classical.propDecidable _) a
  · exact @decide_eq_false _ (Classical.propDecidable _) (fun y => y b)
noncomputable def gk_rk (i j : Int) (A : Int → Prop) : Nat := 9 * (j - i).toNat + gk_fr A
theorem gk_rk_in {i j k e : Int} {A B : Int → Prop} (ik : i ≤ k) (ke : k ≤ e) (ej : e ≤ j) (h : ¬ (k = i ∧ e = j)) : gk_rk k e B < gk_rk i j A := by
  have := gk_fr_le B
  unfold gk_rk
  omega
theorem gk_rk_up {i j : Int} {A B : Int → Prop} (h : ∀ x, A x → B x) {n : Int} (n0 : 0 ≤ n) (n1 : n < 8) (a : ¬ A n) (b : B n) : gk_rk i j B < gk_rk i j A := by
  have := gk_fr_lt h n0 n1 a b
  unfold gk_rk
  omega
theorem gk_rk_le {i j : Int} {A : Int → Prop} (h : j - i ≤ 8) : gk_rk i j A ≤ 80 := by
  have := gk_fr_le A
  unfold gk_rk
  omega
theorem gk_body_cg {G : gm_G} (hG : gm_ok G) {z z2 : Int} {t t2 : Int → Int} {T T2 : Int → Int → Int → (Int → Prop) → Int} {n i j : Int} {A A2 : Int → Prop} (h : ∀ r d k e, 0 ≤ r → r < gm_R G → gm_o G r = n → 0 ≤ d → d < gm_s G r → i ≤ k → k ≤ e → e ≤ j → gk_own G z t T r i j (fun x => A x ∨ x = n) d k e = gk_own G z2 t2 T2 r i j (fun x => A2 x ∨ x = n) d k e) : gsum (fun r => gt_if (gm_o G r = n) (gk_W (gk_own G z t T r i j (fun x => A x ∨ x = n)) (gm_s G r) j (gm_s G r).toNat i)) (gm_R G).toNat = gsum (fun r => gt_if (gm_o G r = n) (gk_W (gk_own G z2 t2 T2 r i j (fun x => A2 x ∨ x = n)) (gm_s G r) j (gm_s G r).toNat i)) (gm_R G).toNat := by
  refine gsum_cg _ (fun r r0 r1 => ?_)
  have p := (hG.2.2.2.2.1 r r0 (by omega)).2.2.1
  (try dsimp only)
  by_cases c : gm_o G r = n
  · rw [gt_if_t c, gt_if_t c]
    exact gk_W_cg _ i (by omega) (Int.le_refl _) (fun d k e d0 d1 ik ke ej => h r d k e r0 (by omega) c (by omega) d1 ik ke ej)
  · rw [gt_if_f c, gt_if_f c]
theorem gk_stab {G : gm_G} (hG : gm_ok G) {z : Int} {t : Int → Int} : ∀ (c f f2 : Nat) (n i j : Int) (A : Int → Prop), 0 ≤ n → n < gm_N G → i ≤ j → gk_rk i j A < c → c ≤ f → c ≤ f2 → gk_T G z t f n i j A = gk_T G z t f2 n i j A
  | 0, _, _, _, _, _, _, _, _, _, h, _, _ => absurd h (Nat.not_lt_zero _)
  | c + 1, 0, _, _, _, _, _, _, _, _, _, h, _ => by omega
  | c + 1, _ + 1, 0, _, _, _, _, _, _, _, _, _, h => by omega
  | c + 1, f + 1, f2 + 1, n, i, j, A, n0, n1, ij, hr, h1, h2 => by
    have hN := hG.2.1
    by_cases q : ¬ A n ∧ gt_M G z t n i j
    · have e := gk_body_cg hG (z := z) (z2 := z) (t := t) (t2 := t) (T := gk_T G z t f) (T2 := gk_T G z t f2) (n := n) (i := i) (j := j) (A := A) (A2 := A) (fun r d k e r0 r1 ro d0 d1 ik ke ej => by
        have nn := gm_n_rng hG r0 r1 d0 d1
        unfold gk_own
        by_cases w : gm_n G r d = -1
        · rw [if_pos w, if_pos w]
        · rw [if_neg w, if_neg w]
          by_cases w2 : k = i ∧ e = j
          · rw [if_pos w2, if_pos w2]
            have := gk_rk_up (i := i) (j := j) (A := A) (B := fun x => A x ∨ x = n) (fun x y => Or.inl y) n0 (by omega) q.1 (Or.inr rfl)
            exact gk_stab hG c f f2 _ i j _ (by omega) (by omega) ij (by omega) (by omega) (by omega)
          · rw [if_neg w2, if_neg w2]
            have := gk_rk_in (A := A) (B := fun _ => False) ik ke ej w2
            exact gk_stab hG c f f2 _ k e _ (by omega) (by omega) ke (by omega) (by omega) (by omega))
      show gt_if _ (min _ _) = gt_if _ (min _ _)
      rw [e]
    · show gt_if _ _ = gt_if _ _
      rw [gt_if_f q, gt_if_f q]
/-- the number of trees of a name with names A above it -/
noncomputable def gk_C (G : gm_G) (z : Int) (t : Int → Int) (n i j : Int) (A : Int → Prop) : Int := gk_T G z t 100 n i j A
noncomputable def gk_R (G : gm_G) (z : Int) (t : Int → Int) (r i j : Int) (B : Int → Prop) (d k : Int) : Int := gk_W (gk_own G z t (gk_C G z t) r i j B) (gm_s G r) j (gm_s G r - d).toNat k
theorem gk_C_b {G : gm_G} (hG : gm_ok G) {z : Int} {t : Int → Int} (n i j : Int) (A : Int → Prop) : 0 ≤ gk_C G z t n i j A ∧ gk_C G z t n i j A ≤ 1000000000000000000 := gk_T_b hG 100 n i j A
theorem gk_R_b {G : gm_G} (hG : gm_ok G) {z : Int} {t : Int → Int} {r i j : Int} {B : Int → Prop} {d k : Int} (r0 : 0 ≤ r) (r1 : r < gm_R G) (d0 : 0 ≤ d) : 0 ≤ gk_R G z t r i j B d k ∧ gk_R G z t r i j B d k ≤ 1000000000000000000 := by
  have p := (hG.2.2.2.2.1 r r0 r1).2.2.1
  exact gk_W_b (i := k) _ k (by omega) (Int.le_refl _) (fun d k e _ _ _ _ _ => gk_own_nn (fun n i j A => (gk_C_b hG n i j A).1) r i j _ d k e)
theorem gk_eq {G : gm_G} (hG : gm_ok G) {z : Int} {t : Int → Int} {n i j : Int} {A : Int → Prop} (n0 : 0 ≤ n) (n1 : n < gm_N G) (ij : i ≤ j) (w : j - i ≤ 8) : gk_C G z t n i j A = gt_if (¬ A n ∧ gt_M G z t n i j) (min (gsum (fun r => gt_if (gm_o G r = n) (gk_R G z t r i j (fun x => A x ∨ x = n) 0 i)) (gm_R G).toNat) 1000000000000000000) := by
  have h := gk_rk_le (A := A) w
  have e := gk_stab hG (z := z) (t := t) 100 100 101 n i j A n0 n1 ij (by omega) (by omega) (by omega)
  refine e.trans ?_
  show gt_if _ (min (gsum (fun r => gt_if (gm_o G r = n) (gk_W (gk_own G z t (gk_T G z t 100) r i j (fun x => A x ∨ x = n)) (gm_s G r) j (gm_s G r).toNat i)) (gm_R G).toNat) _) = _
  have e2 : ∀ r, gk_W (gk_own G z t (gk_T G z t 100) r i j (fun x => A x ∨ x = n)) (gm_s G r) j (gm_s G r).toNat i = gk_R G z t r i j (fun x => A x ∨ x = n) 0 i := fun r => by
    unfold gk_R
    rw [Int.sub_zero]
    rfl
  have e3 : (fun r => gt_if (gm_o G r = n) (gk_W (gk_own G z t (gk_T G z t 100) r i j (fun x => A x ∨ x = n)) (gm_s G r) j (gm_s G r).toNat i)) = (fun r => gt_if (gm_o G r = n) (gk_R G z t r i j (fun x => A x ∨ x = n) 0 i)) := funext (fun r => by rw [e2])
  rw [e3]
/-- a row from one part on -/
theorem gk_R_s {G : gm_G} {z : Int} {t : Int → Int} {r i j : Int} {B : Int → Prop} {d k : Int} (d0 : 0 ≤ d) (d1 : d < gm_s G r) : gk_R G z t r i j B d k = min (gsum (fun x => min (gk_own G z t (gk_C G z t) r i j B d k (k + x) * gk_R G z t r i j B (d + 1) (k + x)) 1000000000000000000) (j + 1 - k).toNat) 1000000000000000000 := by
  have e : (gm_s G r - d).toNat = (gm_s G r - (d + 1)).toNat + 1 := by omega
  unfold gk_R
  rw [e]
  show min (gsum (fun x => min (gk_own G z t (gk_C G z t) r i j B (gm_s G r - (((gm_s G r - (d + 1)).toNat : Int) + 1)) k (k + x) * _) _) _) _ = _
  have e2 : gm_s G r - (((gm_s G r - (d + 1)).toNat : Int) + 1) = d := by omega
  rw [e2]
theorem gk_R_e {G : gm_G} {z : Int} {t : Int → Int} {r i j : Int} {B : Int → Prop} {k : Int} : gk_R G z t r i j B (gm_s G r) k = if k = j then 1 else 0 := by
  unfold gk_R
  rw [Int.sub_self]
  rfl

