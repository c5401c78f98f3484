/-! THE LAW'S OWN: numbers out of the script, typing -/
theorem gj_low {m : gh_M} {Q : Int → gh_M → Prop} {v : Int} (q0 : 0 ≤ m 63 0) (q1 : m 63 0 < 1000000) (v0 : 0 < v) (k0 : 0 ≤ m 0 3) (H : ∀ r m1, 0 ≤ r → r < v → gx [63] m m1 → 0 ≤ m1 63 0 → m1 63 0 ≤ m 63 0 + 1 → Q r m1) : w_Law_low_1_63 v m Q := by
  refine ⟨fun _ => H 0 m (Int.le_refl _) v0 gx_rf q0 (by omega), fun ne => ⟨q0, by omega, fun v3 hv3 => ?_⟩⟩
  have md := Int.emod_nonneg (m 63 0) ne
  have ml := Int.emod_lt_of_pos (m 63 0) (show 0 < m 0 3 by omega)
  have e0 : gh_u m 63 0 (m 63 0 + 1) 0 3 = m 0 3 := gh_u_a (by decide)
  rw [e0]
  refine ⟨⟨by omega, by omega⟩, by omega, by omega, ⟨by omega, by omega⟩, fun v4 hv4 => ?_⟩
  have b4 : -2147483648 ≤ v4 ∧ v4 < 2147483648 := by
    rw [hv4]
    exact gh_ok32 _
  refine ⟨fun c => ⟨⟨by omega, by omega⟩, ⟨by omega, by omega⟩⟩, fun v5 hv5 => ?_⟩
  have v50 : 0 ≤ v5 := by
    rw [hv5]
    by_cases c : v4 < 0
    · rw [if_pos c]
      omega
    · rw [if_neg c]
      omega
  have m5 := Int.emod_nonneg (m 63 0 + 1) (show (5 : Int) ≠ 0 by decide)
  have m5l := Int.emod_lt_of_pos (m 63 0 + 1) (show (0 : Int) < 5 by decide)
  have dv := Int.ediv_nonneg v50 (show 0 ≤ 1 + (m 63 0 + 1) % 5 by omega)
  exact ⟨by omega, ⟨by omega, by omega⟩, v50, by omega, dv, v0, H _ _ (Int.emod_nonneg _ (by omega)) (Int.emod_lt_of_pos _ v0) (gx_one _ _ _ _) (by rw [gh_u_s]; omega) (by rw [gh_u_s]; omega)⟩
/-- while a grammar is typed: n numbers at most were taken -/
def gj_I (K : Int) (m0 : gh_M) (n : Int) (m : gh_M) : Prop := gj_A K m ∧ gx [3, 4, 63] m0 m ∧ 0 ≤ m 63 0 ∧ m 63 0 ≤ n
section G32
variable {K n n2 v : Int} {m0 m : gh_M} {Q : Int → gh_M → Prop}
theorem gj_I_up (h : n ≤ n2) (i : gj_I K m0 n m) : gj_I K m0 n2 m := ⟨i.1, i.2.1, i.2.2.1, by have := i.2.2.2; omega⟩
theorem gj_types (i : gj_I K m0 n m) (H : ∀ r m1, gj_I K m0 n m1 → Q r m1) : w_Law_types_2 v m Q := by
  refine gj_type i.1 (fun r m1 a x => H _ m1 ⟨a, gx_t i.2.1 (gx_sub x (by decide)), ?_, ?_⟩)
  · rw [x 63 (by decide)]
    exact i.2.2.1
  · rw [x 63 (by decide)]
    exact i.2.2.2
theorem gj_lowI (k0 : 0 ≤ K) (hn : n < 1000) (v0 : 0 < v) (i : gj_I K m0 n m) (H : ∀ r m1, 0 ≤ r → r < v → gj_I K m0 (n + 1) m1 → Q r m1) : w_Law_low_1_63 v m Q := by
  obtain ⟨a, x, i0, i1⟩ := i
  refine gj_low i0 (by omega) v0 (by rw [gj_A_K a]; exact k0) (fun r m1 r0 r1 x1 q0 q1 => H r m1 r0 r1 ⟨gj_A_x (fun a h3 h4 h63 => x1 a (fun z => h63 (List.mem_singleton.mp z))) (by rw [x1 3 (by decide)]) (x1 4 (by decide)) a, gx_t x (gx_sub x1 (by decide)), q0, by omega⟩)
theorem gj_typesAtom (k0 : 0 ≤ K) (hn : n < 900) (v0 : 0 < v) (vn : v < 100) (i : gj_I K m0 n m) (H : ∀ r m1, gj_I K m0 (n + 3) m1 → Q r m1) : w_Law_typesAtom_2_1_63 v m Q := by
  unfold w_Law_typesAtom_2_1_63
  refine gj_lowI k0 (by omega) (by decide) i (fun r m1 r0 r1 i1 => ?_)
  have up2 : ∀ m', gj_I K m0 (n + 1) m' → gj_I K m0 (n + 1 + 1) m' := fun m' h => gj_I_up (by omega) h
  refine ⟨fun _ m' => gj_I K m0 (n + 1 + 1) m', fun v5 m' i2 => ?_, fun _ => ?_, fun _ => ⟨fun _ => ?_, fun _ => ⟨fun _ => ?_, fun _ => ?_⟩⟩⟩
  · refine gj_lowI k0 (by omega) (by decide) i2 (fun r2 m3 s0 s1 i3 => ?_)
    have i3 : gj_I K m0 (n + 3) m3 := gj_I_up (by omega) i3
    refine ⟨fun m' => gj_I K m0 (n + 3) m', fun m' h => H 0 m' h, fun _ => i3, fun _ => ⟨fun m' => gj_I K m0 (n + 3) m', fun m' h => H 1 m' h, fun le => ⟨fun _ => ⟨by omega, by omega⟩, gj_types i3 (fun r m' h => ⟨fun _ => h, fun _ => h⟩)⟩, fun _ => i3⟩⟩
  · exact gj_lowI k0 (by omega) v0 i1 (fun r2 m2 s0 s1 i2 => ⟨⟨by omega, by omega⟩, gj_types i2 (fun r m' h => h)⟩)
  · refine gj_types i1 (fun r2 m2 i2 => ⟨fun _ m' => gj_I K m0 (n + 1) m', fun _ m' h => up2 m' h, fun m' => gj_I K m0 (n + 1) m', fun m' h => h, fun _ => i2, fun _ => ⟨r0, ⟨by omega, by omega⟩, gj_types i2 (fun r3 m3 i3 => ⟨fun _ => i3, fun _ => ⟨fun m' => gj_I K m0 (n + 1) m', fun m' h => gj_types h (fun r m4 h4 => ⟨fun _ => h4, fun _ => h4⟩), fun _ => gj_types i3 (fun r m4 h4 => ⟨fun _ => h4, fun _ => h4⟩), fun _ => i3⟩⟩)⟩⟩)
  · refine gj_types i1 (fun r2 m2 i2 => ⟨fun _ m' => gj_I K m0 (n + 1 + 1) m', fun _ m' h => h, fun m' => gj_I K m0 (n + 1 + 1) m', fun m' h => h, fun _ => up2 _ i2, fun _ => gj_types i2 (fun r3 m3 i3 => ⟨fun _ => up2 _ i3, fun _ => gj_types i3 (fun r4 m4 i4 => ⟨fun _ => up2 _ i4, fun _ => gj_lowI k0 (by omega) (by decide) i4 (fun r5 m5 s0 s1 i5 => ⟨⟨by omega, by omega⟩, gj_types i5 (fun r6 m6 i6 => ⟨fun _ => i6, fun _ => gj_types i6 (fun r7 m7 i7 => ⟨fun _ => i7, fun _ => i7⟩)⟩)⟩)⟩)⟩)⟩)
  · exact gj_types i1 (fun r2 m2 i2 => ⟨fun _ m' => gj_I K m0 (n + 1) m', fun _ m' h => up2 m' h, fun m' => gj_I K m0 (n + 1) m', fun m' h => h, fun _ => i2, fun _ => gj_types i2 (fun r3 m3 i3 => ⟨fun _ => i3, fun _ => gj_types i3 (fun r4 m4 i4 => ⟨fun _ => i4, fun _ => gj_types i4 (fun r5 m5 i5 => ⟨fun _ => i5, fun _ => gj_types i5 (fun r6 m6 i6 => ⟨fun _ => i6, fun _ => gj_types i6 (fun r7 m7 i7 => ⟨fun _ => i7, fun _ => gj_types i7 (fun r8 m8 i8 => ⟨fun _ => i8, fun _ => i8⟩)⟩)⟩)⟩)⟩)⟩)⟩)
theorem gj_typeGrammar (k0 : 0 ≤ K) (a : gj_A K m) (q : m 63 0 = 0) (H : ∀ m1, gj_A K m1 → gx [3, 4, 63] m m1 → 0 ≤ m1 63 0 → m1 63 0 ≤ 200 → Q 0 m1) : w_Law_typeGrammar_2_1_63 m Q := by
  have i0 : gj_I K m 0 m := ⟨a, gx_rf, by omega, by omega⟩
  unfold w_Law_typeGrammar_2_1_63
  refine gj_lowI k0 (by decide) (by decide) i0 (fun r m1 r0 r1 i1 => ⟨⟨by omega, by omega⟩, fun v3 hv3 => ?_⟩)
  refine ⟨fun v4 m' => 0 ≤ v4 ∧ v4 ≤ 3 ∧ gj_I K m (1 + 40 * v4) m', fun v4 _ => (10 - v4).toNat, ⟨Int.le_refl _, by decide, gj_I_up (by omega) i1⟩, ?_⟩
  rintro v4 m2 ⟨a0, a1, i2⟩
  unfold f_Law_typeGrammar_2_1_63_12
  refine ⟨fun lt => ⟨⟨by omega, by omega⟩, gj_types i2 (fun r3 m3 i3 => ?_)⟩, fun _ => H m2 i2.1 i2.2.1 i2.2.2.1 (by have := i2.2.2.2; omega)⟩
  refine ⟨fun _ m' => gj_I K m (1 + 40 * v4) m', fun y m4 i4 => ?_, fun m' => gj_I K m (1 + 40 * v4) m', fun m' h => h, fun _ => i3, fun _ => gj_types i3 (fun r4 m4 i4 => ⟨fun _ => i4, fun _ => i4⟩)⟩
  refine gj_lowI k0 (by omega) (by decide) i4 (fun r5 m5 s0 s1 i5 => ⟨⟨by omega, by omega⟩, fun v6 hv6 => ?_⟩)
  refine ⟨fun _ v7 m' => 0 ≤ v7 ∧ v7 ≤ 3 ∧ gj_I K m (2 + 40 * v4 + 12 * v7) m', fun _ v7 _ => (10 - v7).toNat, ⟨Int.le_refl _, by decide, gj_I_up (by omega) i5⟩, ?_⟩
  rintro v5 v7 m6 ⟨b0, b1, i6⟩
  unfold f_Law_typeGrammar_2_1_63_59
  refine ⟨fun lt7 => ?_, fun ge7 => ?_⟩
  · refine ⟨fun _ m' => gj_I K m (2 + 40 * v4 + 12 * v7) m', fun y m7 i7 => ?_, fun m' => gj_I K m (2 + 40 * v4 + 12 * v7) m', fun m' h => h, fun _ => i6, fun _ => ⟨fun m' => gj_I K m (2 + 40 * v4 + 12 * v7) m', fun m' h => h, fun _ => i6, fun _ => gj_types i6 (fun r8 m8 i8 => ⟨fun _ => i8, fun _ => i8⟩)⟩⟩
    refine gj_lowI k0 (by omega) (by decide) i7 (fun r8 m8 t0 t1 i8 => ?_)
    refine ⟨fun _ v9 m' => 0 ≤ v9 ∧ v9 ≤ 3 ∧ gj_I K m (3 + 40 * v4 + 12 * v7 + 3 * v9) m', fun _ v9 _ => (10 - v9).toNat, ⟨Int.le_refl _, by decide, gj_I_up (by omega) i8⟩, ?_⟩
    rintro v10 v9 m9 ⟨c0, c1, i9⟩
    unfold f_Law_typeGrammar_2_1_63_103
    refine ⟨fun lt9 => ?_, fun ge9 => ⟨⟨by omega, by omega⟩, ⟨by omega, by omega, gj_I_up (by omega) i9⟩, by (try dsimp only); omega⟩⟩
    refine ⟨fun _ m' => gj_I K m (3 + 40 * v4 + 12 * v7 + 3 * v9 + 3) m', fun y m' h => ⟨⟨by omega, by omega⟩, ⟨by omega, by omega, gj_I_up (by omega) h⟩, by (try dsimp only); omega⟩, fun m' => gj_I K m (3 + 40 * v4 + 12 * v7 + 3 * v9 + 3) m', fun m' h => h, fun _ => gj_I_up (by omega) i9, fun _ => gj_typesAtom k0 (by omega) (by omega) (by omega) i9 (fun r10 m10 i10 => ⟨fun _ => i10, fun _ => i10⟩)⟩
  · refine ⟨fun _ m' => gj_I K m (2 + 40 * v4 + 12 * v7) m', fun y m' h => ⟨⟨by omega, by omega⟩, ⟨by omega, by omega, gj_I_up (by omega) h⟩, by (try dsimp only); omega⟩, fun m' => gj_I K m (2 + 40 * v4 + 12 * v7) m', fun m' h => h, fun _ => i6, fun _ => gj_types i6 (fun r8 m8 i8 => ⟨fun _ => i8, fun _ => i8⟩)⟩
end G32
