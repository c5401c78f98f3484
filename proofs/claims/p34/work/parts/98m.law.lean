/-! THE LAW: every round of it tells what it should -/
theorem gj_lk_n {a i : Int} : ∀ ov : List (Int × Int × Int), ov.all (fun e => e.1 != a) = true → gh_lk ov a i = none
  | [], _ => rfl
  | e :: l, h => by
    have h2 : (e.1 != a && l.all (fun e => e.1 != a)) = true := h
    have h3 := Bool.and_eq_true_iff.mp h2
    rw [gh_lk_f (fun z => by
      have := bne_iff_ne.mp h3.1
      exact this z.1)]
    exact gj_lk_n l h3.2
theorem gj_at {L : Nat} {xs : Nat → Int32} {a i v : Int} (a0 : a ≠ 0) (a1 : a ≠ 1) (h : (gh_lk gh_oR a i).getD 0 = v) : gh_ov gh_oR L xs a i = v := by
  unfold gh_ov
  rw [← h]
  cases gh_lk gh_oR a i with
  | some w => rfl
  | none =>
    show gh_m0 L xs a i = 0
    unfold gh_m0
    rw [if_neg a1, if_neg a0]
theorem gj_at0 {L : Nat} {xs : Nat → Int32} {i v : Int} (h : gh_lk gh_oR 0 i = some v) : gh_ov gh_oR L xs 0 i = v := gh_ov_s h
theorem gj_init {L : Nat} {xs : Nat → Int32} : gj_A L (gh_ov gh_oR L xs) ∧ gh_ov gh_oR L xs 63 0 = 0 := by
  obtain ⟨m, hm⟩ : ∃ m, m = gh_ov gh_oR L xs := ⟨_, rfl⟩
  have e31 : m 3 1 = 0 := by rw [hm]; exact gj_at (by decide) (by decide) (by decide +kernel)
  have e210 : m 2 10 = 0 := by rw [hm]; exact gj_at (by decide) (by decide) (by decide +kernel)
  have e419 : m 41 9 = 0 := by rw [hm]; exact gj_at (by decide) (by decide) (by decide +kernel)
  have e417 : m 41 7 = 45 := by rw [hm]; exact gj_at (by decide) (by decide) (by decide +kernel)
  have e418 : m 41 8 = 46 := by rw [hm]; exact gj_at (by decide) (by decide) (by decide +kernel)
  have e4111 : m 41 11 = -1 := by rw [hm]; exact gj_at (by decide) (by decide) (by decide +kernel)
  have e364 : m 36 4 = 0 := by rw [hm]; exact gj_at (by decide) (by decide) (by decide +kernel)
  have e367 : m 36 7 = -1 := by rw [hm]; exact gj_at (by decide) (by decide) (by decide +kernel)
  have e630 : m 63 0 = 0 := by rw [hm]; exact gj_at (by decide) (by decide) (by decide +kernel)
  have e01 : m 0 1 = 66 := by rw [hm]; exact gj_at0 (by decide +kernel)
  have e00 : m 0 0 = 6047 := by rw [hm]; exact gj_at0 (by decide +kernel)
  have e90 : m 0 90 = 3 := by rw [hm]; exact gj_at0 (by decide +kernel)
  have e91 : m 0 91 = 0 := by rw [hm]; exact gj_at0 (by decide +kernel)
  have e92 : m 0 92 = 1 := by rw [hm]; exact gj_at0 (by decide +kernel)
  have e93 : m 0 93 = 0 := by rw [hm]; exact gj_at0 (by decide +kernel)
  have e03 : m 0 3 = L := by
    rw [hm, gh_ov_n (show gh_lk gh_oR 0 3 = none by decide +kernel)]
    rfl
  rw [← hm]
  exact ⟨⟨⟨by omega, by omega, fun k k0 k1 => by omega⟩, ⟨e210, by rw [e364]; exact gbs_0 _, by omega, by omega⟩, (0, 0, fun _ => 0, fun _ => 0, fun _ _ => 0), 0, fun _ => 0, Or.inl ⟨e03, e417, e418, e01, e00, e90, e91, e92, e93⟩, by omega, by omega, by omega, fun z => by omega, fun n k e _ _ _ ke er => by omega, fun z => by omega⟩, e630⟩
theorem gj_room {K : Int} {m : gh_M} (h : gk_mem K m) : m 0 1 ≤ 600002 ∧ m 0 0 ≤ 7302250 := by
  rcases h with h | h
  · have a := h.2.2.2.1
    have b := h.2.2.2.2.1
    omega
  · have a := h.2.2.2.1
    have b := h.2.2.2.2.1
    omega
theorem gj_fault0 {m : gh_M} {Q : Int → Prop} (H : Q (m 5 1)) : w_House_fault 0 m Q := ⟨fun _ => H, fun z => absurd z (by decide), fun z => absurd rfl z⟩
theorem gj_fault1 {m : gh_M} {Q : Int → Prop} (H : Q (m 5 2)) : w_House_fault 1 m Q := ⟨fun z => absurd z (by decide), fun _ => H, fun _ z => absurd rfl z⟩
section G35
variable {K u n : Int} {G : gm_G} {m : gh_M} {Q : Int → gh_M → Prop} {v : Int}
/-- what holds between the calls, n numbers taken at most -/
def gj_Z (K u n : Int) (G : gm_G) (m : gh_M) : Prop := gj_S K u G m ∧ 0 ≤ m 63 0 ∧ m 63 0 ≤ n
theorem gj_Z_up {u2 n2 : Int} (h : u ≤ u2) (h2 : n ≤ n2) (j : gj_Z K u n G m) : gj_Z K u2 n2 G m := ⟨gj_S_up h j.1, j.2.1, Int.le_trans j.2.2 h2⟩
theorem gj_lowZ (k0 : 0 ≤ K) (hn : n < 100000) (v0 : 0 < v) (j : gj_Z K u n G m) (H : ∀ r m1, 0 ≤ r → r < v → gj_Z K u (n + 1) G m1 → Q r m1) : w_Law_low_1_63 v m Q := by
  obtain ⟨a, i0, i1⟩ := j
  exact gj_low i0 (by omega) v0 (by rw [gj_S_K a]; exact k0) (fun r m1 r0 r1 x1 q0 q1 => H r m1 r0 r1 ⟨gj_sx x1 (by decide) a, q0, by omega⟩)
theorem gj_textZ (hu : u ≤ 100000) (j : gj_Z K u n G m) (H : ∀ m1, gj_Z K (u + 3000) n G m1 → Q 1 m1) : w_Law_isTextWell_2_64_65 m Q := gj_textWell j.1 hu (fun m1 j1 f1 => H m1 ⟨j1, by rw [f1 63 (by decide)]; exact j.2.1, by rw [f1 63 (by decide)]; exact j.2.2⟩)
theorem gj_Zg {m1 : gh_M} (j : gj_Z K u n G m) (j1 : gj_S K u G m1) (g : gj_g m m1) : gj_Z K u n G m1 := ⟨j1, by rw [g 63 (by decide)]; exact j.2.1, by rw [g 63 (by decide)]; exact j.2.2⟩
/-- one round of the law -/
theorem gj_rounds (k0 : 0 ≤ K) (j : gj_Z K 0 300 G m) : gh_M2 (fun K158 v6 v7 m => f_Law_law_158 (fun r m' => r = 1 ∧ m' 0 1 ≤ 600002 ∧ m' 0 0 ≤ 7302250) K158 v6 v7 m) 1 0 m := by
  refine ⟨fun v6 v7 m' => v6 = 1 ∧ 0 ≤ v7 ∧ v7 ≤ 3 ∧ gj_Z K (6000 * v7) (300 + 100 * v7) G m', fun _ v7 _ => (10 - v7).toNat, ⟨rfl, Int.le_refl _, by decide, gj_Z_up (by decide) (by decide) j⟩, ?_⟩
  rintro v6 v7 m1 ⟨e6, a0, a1, j1⟩
  unfold f_Law_law_158
  refine ⟨fun _ => ⟨Or.inr e6, e6, gj_room j1.1.2.2.2.2.2.1.1.1⟩, fun go => ?_⟩
  have lt7 : v7 < 3 := by omega
  refine gj_textZ (by omega) j1 (fun m2 j2 => ?_)
  refine gj_lowZ k0 (by omega) (by decide) j2 (fun r2 m3 r0 r1 j3 => ?_)
  refine ⟨fun v6' m' => v6' = 1 ∧ gj_Z K (6000 * v7 + 3000) (300 + 100 * v7 + 50) G m', fun v6' m4 ⟨e6', j4⟩ => ?_, fun _ => ?_, fun _ => ?_⟩
  · refine ⟨fun y m' => y = 1 ∧ gj_Z K (6000 * (v7 + 1)) (300 + 100 * (v7 + 1)) G m', fun y m' ⟨y1, h⟩ => ⟨⟨by omega, by omega⟩, ⟨y1, by omega, by omega, h⟩, by (try dsimp only); omega⟩, fun _ => False, fun _ h => False.elim h, fun z => absurd z (by omega), fun _ => ?_⟩
    exact gj_textZ (by omega) j4 (fun m5 j5 => ⟨fun z => absurd z (by decide), fun _ => ⟨rfl, gj_Z_up (by omega) (by omega) j5⟩⟩)
  · refine gj_lowZ k0 (by omega) (by decide) j3 (fun r4 m4 s0 s1 j4 => ?_)
    have fin : ∀ m', gj_Z K (6000 * v7 + 3000) (300 + 100 * v7 + 1 + 1) G m' → gj_Z K (6000 * v7 + 3000) (300 + 100 * v7 + 50) G m' := fun m' h => gj_Z_up (by omega) (by omega) h
    refine gj_madev j4.1 ⟨by omega, s1⟩ (fun m5 j5 g5 => ?_) (fun m5 j5 g5 mk => ?_)
    · have z5 := gj_Zg j4 j5 g5
      refine ⟨fun y m' => y = 1 ∧ gj_Z K (6000 * v7 + 3000) (300 + 100 * v7 + 50) G m', fun y m' h => h, fun _ => False, fun _ h => False.elim h, fun z => absurd z (by decide), fun _ => ?_⟩
      exact ⟨fun m' => gj_Z K (6000 * v7 + 3000) (300 + 100 * v7 + 50) G m', fun m' h => ⟨rfl, h⟩, fun _ => fin m5 z5, fun z => absurd rfl z⟩
    · have z5 := gj_Zg j4 j5 g5
      have t5 := gj_t j5
      refine ⟨fun y m' => y = 1 ∧ gj_Z K (6000 * v7 + 3000) (300 + 100 * v7 + 50) G m', fun y m' h => h, fun _ => False, fun _ h => False.elim h, fun z => absurd z (by decide), fun _ => ?_⟩
      refine ⟨fun m' => gj_Z K (6000 * v7 + 3000) (300 + 100 * v7 + 50) G m', fun m' h => ⟨rfl, h⟩, fun _ => fin m5 z5, fun _ => gj_sum4 j5 ⟨fun _ => ?_, fun z => absurd rfl z⟩⟩
      have t50 := t5.2.1
      refine gj_accepts j5 ⟨by omega, Int.le_refl _⟩ (fun m6 j6 f6 => ?_)
      have z6 := gj_Zg z5 j6 (gj_gf f6)
      rw [gt_ib_t mk]
      exact ⟨fun _ => fin m6 z6, fun z => absurd rfl z⟩
  · refine gj_lowZ k0 (by omega) (by decide) j3 (fun r4 m4 s0 s1 j4 => ⟨⟨by omega, by omega⟩, fun v8 hv8 => ?_⟩)
    refine ⟨fun v9 m' => 0 ≤ v9 ∧ v9 ≤ 3 ∧ gj_Z K (6000 * v7 + 3000) (300 + 100 * v7 + 3 + v9) G m', fun v9 _ => (10 - v9).toNat, ⟨Int.le_refl _, by decide, gj_Z_up (by omega) (by omega) j4⟩, ?_⟩
    rintro v9 m5 ⟨b0, b1, j5⟩
    unfold f_Law_law_261
    refine ⟨fun lt9 => ?_, fun _ => ⟨rfl, gj_Z_up (by omega) (by omega) j5⟩⟩
    refine gj_lowZ k0 (by omega) (by decide) j5 (fun r6 m6 t0 t1 j6 => ?_)
    refine gj_put j6.1 ⟨by omega, by omega⟩ (fun r7 m7 j7 g7 => ⟨⟨by omega, by omega⟩, ⟨by omega, by omega, gj_Z_up (by omega) (by omega) (gj_Zg j6 j7 g7)⟩, by (try dsimp only); omega⟩)
end G35
theorem gj_law {L : Nat} {xs : Nat → Int32} : w_Law (gh_ov gh_oR L xs) (fun r m' => r = 1 ∧ m' 0 1 ≤ 600002 ∧ m' 0 0 ≤ 7302250) := by
  obtain ⟨i1, i2⟩ := gj_init (L := L) (xs := xs)
  have k0 : (0 : Int) ≤ (L : Int) := by omega
  unfold w_Law
  refine gj_typeGrammar k0 i1 i2 (fun m1 a1 x1 q0 q1 => ?_)
  have rm : m1 0 1 ≤ 600002 ∧ m1 0 0 ≤ 7302250 := by
    obtain ⟨_, _, G, z, t, fo⟩ := a1
    exact gj_room fo.1
  refine gj_read a1 (fun m2 f n2 f1 f5 e1 e2 e0 e01 => ?_) (fun m2 G j2 e1 e63 e51 e52 e26 => ?_)
  · refine ⟨fun _ => ⟨fun _ => False, fun _ h => False.elim h, fun _ => gj_fault0 ⟨⟨by omega, by omega⟩, fun _ => gj_fault1 ⟨fun z => absurd z (by omega), fun _ => gj_sumz n2 ⟨fun _ => ?_, fun z => absurd rfl z⟩⟩, fun z => z (by omega)⟩, fun z => z ⟨by omega, by omega⟩⟩, fun z => absurd (by omega) z⟩
    refine ⟨fun _ => ⟨fun _ => ⟨fun _ => ⟨rfl, ?_⟩, fun z => absurd rfl z⟩, fun z => absurd n2 z⟩, fun z => absurd ⟨by decide, by decide⟩ z⟩
    rw [e0]
    exact rm
  · have R0 := j2.2.1.1.2.2.1
    refine ⟨fun z => absurd z (by omega), fun _ => gj_sum2 j2 ?_⟩
    refine ⟨fun y => y = 1, fun y hy => ?_, False, fun z => False.elim z, fun _ => gj_fault0 ⟨fun _ => gj_fault1 ⟨fun _ => gj_sum4 j2 ⟨fun _ => rfl, fun z => z e26⟩, fun z => z e52⟩, fun z => z e51⟩, fun z => z rfl⟩
    have hy : y = 1 := hy
    rw [hy]
    exact gj_rounds k0 ⟨j2, by rw [e63]; exact q0, by rw [e63]; omega⟩
