/-! THE PROPER GRAMMAR: the class counts -/
theorem gb_sub0 {n : Nat} {x y : Int} (hn : n ≤ 31) (hx : gbs n x) (hy : gbs n y) : gh_iand_f x (gh_ixor_f y (-1)) = 0 ↔ ∀ i : Int, 0 ≤ i → gb x i → gb y i := by
  obtain ⟨b1, b2⟩ := gb_less hn hx hy
  constructor
  · intro h i i0 w
    refine Classical.byContradiction (fun u => ?_)
    have := (b2 i i0).mpr ⟨w, u⟩
    rw [h] at this
    exact gb_0 i this
  · intro h
    exact gb_ext b1 (gbs_0 n) (fun i i0 _ => ⟨fun w => absurd (h i i0 ((b2 i i0).mp w).1) ((b2 i i0).mp w).2, fun w => absurd w (gb_0 i)⟩)
theorem gb_grow {n : Nat} {x y : Int} (hxy : ∀ i : Int, 0 ≤ i → gb x i → gb y i) : (∀ i : Int, 0 ≤ i → i < n → gb y i → gb x i) ∨ gbc x n < gbc y n := by
  by_cases e : ∀ i : Int, 0 ≤ i → i < n → gb y i → gb x i
  · exact Or.inl e
  · refine Or.inr ?_
    have ⟨i, hi⟩ : ∃ i : Int, ¬ (0 ≤ i → i < n → gb y i → gb x i) := Classical.not_forall.mp e
    have i0 : 0 ≤ i := Classical.byContradiction (fun z => hi (fun a => absurd a z))
    have i1 : i < n := Classical.byContradiction (fun z => hi (fun _ a => absurd a z))
    have i2 : gb y i := Classical.byContradiction (fun z => hi (fun _ _ a => absurd a z))
    have i3 : ¬ gb x i := fun z => hi (fun _ _ _ => z)
    exact gbc_lt (x := x) (y := y) n (fun i a _ => hxy i a) i i0 (by omega) i2 i3
theorem gy_f_b {G : gm_G} (hG : gm_ok G) {E : Int} {U V : Int → Prop} (L : List Int) : 0 ≤ gy_f G E U V L ∧ gy_f G E U V L ≤ 8 := by
  have hN := hG.2.1
  have hN0 := hG.1
  have a := gsum_nn (f := fun n => gt_ib (gy_P G E U V n L)) (gm_N G).toNat (fun i _ _ => by
    have := gt_ib_01 (P := gy_P G E U V i L)
    (try dsimp only)
    omega)
  have b := gsum_le (f := fun n => gt_ib (gy_P G E U V n L)) (B := 1) (gm_N G).toNat (fun i _ _ => by
    have := gt_ib_01 (P := gy_P G E U V i L)
    (try dsimp only)
    omega)
  unfold gy_f
  omega
theorem gy_f_x {G : gm_G} {E : Int} {U V : Int → Prop} {L : List Int} (h : gy_f G E U V L ≠ 0) : ∃ n, 0 ≤ n ∧ n < gm_N G ∧ gy_P G E U V n L := by
  refine Classical.byContradiction (fun y => h ?_)
  exact gsum_z _ (fun i i0 i1 => gt_ib_f (fun w => y ⟨i, i0, by omega, w⟩))
theorem gy_countUseful {G : gm_G} {E : Int} {U V : Int → Prop} {rw : Int → List Int} {m : gh_M} {Q : Int → gh_M → Prop} (hG : gm_ok G) (hC : gm_C m G) (cs : gy_cs G E U V rw m) (H : ∀ m2, gx [58] m m2 → (∀ y, y ≠ 3 → y ≠ 4 → y ≠ 5 → m2 58 y = m 58 y) → gy_res G E U V (m2 58 3) (gh_pop (m2 58 4)) (m2 58 5) → Q 0 m2) : w_Proper_countUseful m Q := by
  have hN0 := hG.1
  have hN := hG.2.1
  obtain ⟨⟨q0, q1⟩, c8, inj, each, all⟩ := cs
  obtain ⟨HS, hHS⟩ : ∃ HS, HS = gy_hs G E U V := ⟨_, rfl⟩
  have own : ∀ a, 0 ≤ a → a < m 58 10 → ∀ n, 0 ≤ n → gb (m 61 a) n → n < gm_N G ∧ HS n (rw a) := fun a a0 a1 n n0 y => by
    obtain ⟨k1, k2, k3, k4, k5⟩ := each a a0 a1
    have n1 := gb_lt k4 n0 y
    rw [hHS]
    exact ⟨by omega, (k5 n n0 (by omega)).mp y⟩
  have its : ∀ n L, 0 ≤ n → n < gm_N G → HS n L → ∃ a, 0 ≤ a ∧ a < m 58 10 ∧ rw a = L ∧ gb (m 61 a) n := fun n L n0 n1 h => by
    rw [hHS] at h
    obtain ⟨a, a0, a1, a2⟩ := all n L h
    exact ⟨a, a0, a1, a2, ((each a a0 a1).2.2.2.2 n n0 n1).mpr (by rw [a2]; exact h)⟩
  -- what ends
  refine ⟨fun e v => 0 ≤ v ∧ v ≤ gm_N G ∧ gbs (gm_N G).toNat e ∧ (∀ i, 0 ≤ i → gb e i → gy_es (gm_N G) HS i) ∧ ((∀ a, 0 ≤ a → a < m 58 10 → (∀ i, 0 ≤ i → -1 - i ∈ rw a → gb e i) → ∀ n, 0 ≤ n → gb (m 61 a) n → gb e n) ∨ v ≤ gbc e (gm_N G).toNat), fun _ v => (20 - v).toNat, ⟨Int.le_refl _, by omega, gbs_0 _, fun i _ y => absurd y (gb_0 i), Or.inr (by omega)⟩, ?_⟩
  rintro e v ⟨v0, v1, ge, se, ce⟩
  unfold f_Proper_countUseful_4
  rw [hC.1]
  refine ⟨fun c => ?_, fun c => ?_⟩
  · refine ⟨fun F a => 0 ≤ a ∧ a ≤ m 58 10 ∧ gbs (gm_N G).toNat F ∧ (∀ i, 0 ≤ i → gb F i → gy_es (gm_N G) HS i) ∧ (∀ i, 0 ≤ i → gb e i → gb F i) ∧ ∀ b, 0 ≤ b → b < a → (∀ i, 0 ≤ i → -1 - i ∈ rw b → gb e i) → ∀ n, 0 ≤ n → gb (m 61 b) n → gb F n, fun _ a => (400 - a).toNat, ⟨Int.le_refl _, q0, ge, se, fun _ _ y => y, fun b x y => by omega⟩, ?_⟩
    rintro F a ⟨a0, a1, gF, sF, mF, hF⟩
    unfold f_Proper_countUseful_17
    refine ⟨fun c2 => ⟨a0, by omega, ?_⟩, fun c2 => ⟨by omega, ⟨by omega, by omega, gF, sF, ?_⟩, by (try dsimp only); omega⟩⟩
    · obtain ⟨k1, k2, k3, k4, k5⟩ := each a a0 c2
      refine gy_namesIn hG c8 k1 k3 (fun X gX hX => ⟨fun _ => ⟨a0, by omega⟩, ?_⟩)
      intro F2 hF2
      have sub := gb_sub0 (by omega) gX gF
      by_cases t : gh_iand_f X (gh_ixor_f F (-1)) = 0
      · rw [if_pos t] at hF2
        have bits : ∀ i, gb F2 i ↔ gb F i ∨ gb (m 61 a) i := fun i => by
          rw [hF2]
          exact gb_ior (by omega) gF k4
        refine ⟨by omega, ⟨by omega, by omega, by rw [hF2]; exact gbs_or (by omega) gF k4, fun i i0 y => ?_, fun i i0 y => (bits i).mpr (Or.inl (mF i i0 y)), fun b b0 b1 y n n0 z => ?_⟩, by (try dsimp only); omega⟩
        · rcases (bits i).mp y with y | y
          · exact sF i i0 y
          · have o := own a a0 c2 i i0 y
            refine gy_es_cl i0 o.1 o.2 (fun p hp p0 => sF (-1 - p) (by omega) (sub.mp t (-1 - p) (by omega) ((hX (-1 - p) (by omega)).mpr ?_)))
            have : -1 - (-1 - p) = p := by omega
            rw [this]
            exact hp
        · by_cases u : b = a
          · rw [u] at z
            exact (bits n).mpr (Or.inr z)
          · exact (bits n).mpr (Or.inl (hF b b0 (by omega) y n n0 z))
      · rw [if_neg t] at hF2
        have bits : ∀ i, gb F2 i ↔ gb F i := fun i => by
          rw [hF2, gb_ior (by omega) gF (gbs_0 _)]
          exact ⟨fun y => y.elim id (fun z => absurd z (gb_0 i)), Or.inl⟩
        refine ⟨by omega, ⟨by omega, by omega, by rw [hF2]; exact gbs_or (by omega) gF (gbs_0 _), fun i i0 y => sF i i0 ((bits i).mp y), fun i i0 y => (bits i).mpr (mF i i0 y), fun b b0 b1 y n n0 z => ?_⟩, by (try dsimp only); omega⟩
        by_cases u : b = a
        · rw [u] at y
          exact absurd (sub.mpr (fun i i0 w => mF i i0 (y i i0 ((hX i i0).mp w)))) t
        · exact (bits n).mpr (hF b b0 (by omega) y n n0 z)
    · rcases gb_grow (n := (gm_N G).toNat) mF with w | w
      · refine Or.inl (fun b b0 b1 y n n0 z => hF b b0 (by omega) (fun i i0 p => ?_) n n0 z)
        have y1 := y i i0 p
        have := gb_lt gF i0 y1
        exact w i i0 this y1
      · rcases ce with ce | ce
        · refine Or.inl (fun b b0 b1 y n n0 z => mF n n0 (ce b b0 b1 (fun i i0 p => ?_) n n0 z))
          refine sF i i0 (y i i0 p) (fun i => gb e i) (fun n L n0 n1 h hp => ?_)
          obtain ⟨a', a0', a1', a2', a3'⟩ := its n L n0 n1 h
          refine ce a' a0' a1' (fun i i0 w => ?_) n n0 a3'
          have y2 := hp (-1 - i) (by rw [← a2']; exact w) (by omega)
          have e2 : -1 - (-1 - i) = i := by omega
          rw [e2] at y2
          exact y2
        · exact Or.inr (by omega)
  have ce2 : ∀ a, 0 ≤ a → a < m 58 10 → (∀ i, 0 ≤ i → -1 - i ∈ rw a → gb e i) → ∀ n, 0 ≤ n → gb (m 61 a) n → gb e n := by
    rcases ce with ce | ce
    · exact ce
    · exact fun a a0 a1 _ n n0 y => gbc_full (gm_N G).toNat (by omega) n n0 (by have := own a a0 a1 n n0 y; omega)
  have es : ∀ i, 0 ≤ i → (gb e i ↔ gy_es (gm_N G) HS i) := fun i i0 => ⟨se i i0, fun y => y (fun i => gb e i) (fun n L n0 n1 h hp => by
    obtain ⟨a', a0', a1', a2', a3'⟩ := its n L n0 n1 h
    refine ce2 a' a0' a1' (fun i i0 w => ?_) n n0 a3'
    have y2 := hp (-1 - i) (by rw [← a2']; exact w) (by omega)
    have e2 : -1 - (-1 - i) = i := by omega
    rw [e2] at y2
    exact y2)⟩
  have ed : ∀ X a, (∀ i, 0 ≤ i → (gb X i ↔ -1 - i ∈ rw a)) → gbs (gm_N G).toNat X → (gh_iand_f X (gh_ixor_f e (-1)) = 0 ↔ gy_ed (gm_N G) HS (rw a)) := fun X a hX gX => by
    rw [gb_sub0 (by omega) gX ge]
    constructor
    · intro y p hp p0
      refine (es (-1 - p) (by omega)).mp (y (-1 - p) (by omega) ((hX (-1 - p) (by omega)).mpr ?_))
      have : -1 - (-1 - p) = p := by omega
      rw [this]
      exact hp
    · intro y i i0 w
      have z := y (-1 - i) ((hX i i0).mp w) (by omega)
      have e2 : -1 - (-1 - i) = i := by omega
      rw [e2] at z
      exact (es i i0).mpr z
  clear ce v0 v1 c
  intro u0 hu0
  have one : ∀ i, 0 ≤ i → (gb 1 i ↔ i = 0) := fun i i0 => by
    have := gb_ishl1 (k := 0) (i := i) (Int.le_refl _) (by decide) i0
    rwa [gb_one (Int.le_refl 0) (by decide)] at this
  have u0b : ∀ i, 0 ≤ i → (gb u0 i ↔ i = 0 ∧ gb e 0) := fun i i0 => by
    rw [hu0, gb_iand (by omega) ge (by decide), one i i0]
    exact ⟨fun y => ⟨y.2, by rw [← y.2]; exact y.1⟩, fun y => ⟨by rw [y.1]; exact y.2, y.1⟩⟩
  -- what is of the proper grammar
  refine ⟨fun f v => 0 ≤ v ∧ v ≤ gm_N G ∧ gbs (gm_N G).toNat f ∧ (∀ i, 0 ≤ i → gb f i → gy_pr (gm_N G) HS i) ∧ (gb e 0 → gb f 0) ∧ ((∀ a, 0 ≤ a → a < m 58 10 → gy_ed (gm_N G) HS (rw a) → ∀ n, 0 ≤ n → gb (m 61 a) n → gb f n → ∀ i, 0 ≤ i → -1 - i ∈ rw a → gb f i) ∨ v ≤ gbc f (gm_N G).toNat), fun _ v => (20 - v).toNat, ⟨Int.le_refl _, by omega, by rw [hu0]; exact gbs_and (by omega) ge (by decide), fun i i0 y => ?_, fun y => (u0b 0 (Int.le_refl _)).mpr ⟨rfl, y⟩, Or.inr (by omega)⟩, ?_⟩
  · have := (u0b i i0).mp y
    rw [this.1]
    exact gy_pr_0 ((es 0 (Int.le_refl _)).mp this.2)
  rintro f v ⟨v0, v1, gf, sf, f0, cf⟩
  unfold f_Proper_countUseful_72
  rw [hC.1]
  have prf : ∀ w : Int, gb w 0 ∨ ¬ gb e 0 → (∀ a, 0 ≤ a → a < m 58 10 → gy_ed (gm_N G) HS (rw a) → ∀ n, 0 ≤ n → gb (m 61 a) n → gb w n → ∀ i, 0 ≤ i → -1 - i ∈ rw a → gb w i) → ∀ i, 0 ≤ i → gy_pr (gm_N G) HS i → gb w i := by
    intro w w0 cw i i0 y
    refine y (fun i => gb w i) (fun z => w0.elim id (fun u => absurd ((es 0 (Int.le_refl _)).mpr z) u)) (fun n L p n0 n1 h hed z hp p0 => ?_)
    obtain ⟨a, a0, a1, a2, a3⟩ := its n L n0 n1 h
    refine cw a a0 a1 (by rw [a2]; exact hed) n n0 a3 z (-1 - p) (by omega) ?_
    have : -1 - (-1 - p) = p := by omega
    rw [this, a2]
    exact hp
  refine ⟨fun c => ?_, fun c => ?_⟩
  · refine ⟨fun F a => 0 ≤ a ∧ a ≤ m 58 10 ∧ gbs (gm_N G).toNat F ∧ (∀ i, 0 ≤ i → gb F i → gy_pr (gm_N G) HS i) ∧ (∀ i, 0 ≤ i → gb f i → gb F i) ∧ ∀ b, 0 ≤ b → b < a → gy_ed (gm_N G) HS (rw b) → ∀ n, 0 ≤ n → gb (m 61 b) n → gb f n → ∀ i, 0 ≤ i → -1 - i ∈ rw b → gb F i, fun _ a => (400 - a).toNat, ⟨Int.le_refl _, q0, gf, sf, fun _ _ y => y, fun b x y => by omega⟩, ?_⟩
    rintro F a ⟨a0, a1, gF, sF, mF, hF⟩
    unfold f_Proper_countUseful_86
    refine ⟨fun c2 => ⟨a0, by omega, ?_⟩, fun c2 => ⟨by omega, ⟨by omega, by omega, gF, sF, fun y => mF 0 (Int.le_refl _) (f0 y), ?_⟩, by (try dsimp only); omega⟩⟩
    · obtain ⟨k1, k2, k3, k4, k5⟩ := each a a0 c2
      refine gy_namesIn hG c8 k1 k3 (fun X gX hX => ⟨fun _ => ⟨a0, by omega⟩, ?_⟩)
      intro F2 hF2
      have hed := ed X a hX gX
      have hit := gb_iand0 (by omega) k4 gF
      by_cases t : gy_ed (gm_N G) HS (rw a) ∧ ¬ gh_iand_f (m 61 a) F = 0
      · rw [if_pos (hed.mpr t.1), if_neg t.2] at hF2
        have bits : ∀ i, gb F2 i ↔ gb F i ∨ gb X i := fun i => by
          rw [hF2]
          exact gb_ior (by omega) gF gX
        have ⟨n, n0, y1, y2⟩ : ∃ n, 0 ≤ n ∧ gb (m 61 a) n ∧ gb F n := Classical.byContradiction (fun y => t.2 (hit.mpr (fun i i0 w => y ⟨i, i0, w.1, w.2⟩)))
        refine ⟨by omega, ⟨by omega, by omega, by rw [hF2]; exact gbs_or (by omega) gF gX, fun i i0 y => ?_, fun i i0 y => (bits i).mpr (Or.inl (mF i i0 y)), fun b b0 b1 y n n0 z z2 i i0 p => ?_⟩, by (try dsimp only); omega⟩
        · rcases (bits i).mp y with y | y
          · exact sF i i0 y
          · have o := own a a0 c2 n n0 y1
            have pp := gy_pr_s (p := -1 - i) n0 o.1 o.2 t.1 (sF n n0 y2) ((hX i i0).mp y) (by omega)
            have e2 : -1 - (-1 - i) = i := by omega
            rw [e2] at pp
            exact pp
        · by_cases u : b = a
          · rw [u] at p
            exact (bits i).mpr (Or.inr ((hX i i0).mpr p))
          · exact (bits i).mpr (Or.inl (hF b b0 (by omega) y n n0 z z2 i i0 p))
      · have z : (if gh_iand_f X (gh_ixor_f e (-1)) = 0 then if gh_iand_f (m 61 a) F = 0 then 0 else X else 0) = 0 := by
          by_cases t1 : gh_iand_f X (gh_ixor_f e (-1)) = 0
          · rw [if_pos t1, if_pos (Classical.byContradiction (fun y => t ⟨hed.mp t1, y⟩))]
          · rw [if_neg t1]
        rw [z] at hF2
        have bits : ∀ i, gb F2 i ↔ gb F i := fun i => by
          rw [hF2, gb_ior (by omega) gF (gbs_0 _)]
          exact ⟨fun y => y.elim id (fun z => absurd z (gb_0 i)), Or.inl⟩
        refine ⟨by omega, ⟨by omega, by omega, by rw [hF2]; exact gbs_or (by omega) gF (gbs_0 _), fun i i0 y => sF i i0 ((bits i).mp y), fun i i0 y => (bits i).mpr (mF i i0 y), fun b b0 b1 y n n0 z z2 i i0 p => ?_⟩, by (try dsimp only); omega⟩
        by_cases u : b = a
        · rw [u] at y z
          exact absurd ⟨y, fun w => hit.mp w n n0 ⟨z, mF n n0 z2⟩⟩ t
        · exact (bits i).mpr (hF b b0 (by omega) y n n0 z z2 i i0 p)
    · rcases gb_grow (n := (gm_N G).toNat) mF with w | w
      · refine Or.inl (fun b b0 b1 y n n0 z z2 i i0 p => hF b b0 (by omega) y n n0 z (w n n0 (gb_lt gF n0 z2) z2) i i0 p)
      · rcases cf with cf | cf
        · have big := prf f (by
            by_cases q : gb e 0
            · exact Or.inl (f0 q)
            · exact Or.inr q) cf
          refine Or.inl (fun b b0 b1 y n n0 z z2 i i0 p => mF i i0 (cf b b0 b1 y n n0 z (big n n0 (sF n n0 z2)) i i0 p))
        · exact Or.inr (by omega)
  have cf2 : ∀ a, 0 ≤ a → a < m 58 10 → gy_ed (gm_N G) HS (rw a) → ∀ n, 0 ≤ n → gb (m 61 a) n → gb f n → ∀ i, 0 ≤ i → -1 - i ∈ rw a → gb f i := by
    rcases cf with cf | cf
    · exact cf
    · intro a a0 a1 _ n n0 _ _ i i0 p
      have pN := (each a a0 a1).1 (-1 - i) p
      exact gbc_full (gm_N G).toNat (by omega) i i0 (by omega)
  have pr : ∀ i, 0 ≤ i → (gb f i ↔ gy_pr (gm_N G) HS i) := fun i i0 => ⟨sf i i0, prf f (by
    by_cases q : gb e 0
    · exact Or.inl (f0 q)
    · exact Or.inr q) cf2 i i0⟩
  clear cf v0 v1 c
  -- the counts
  obtain ⟨mm, hmm⟩ : ∃ mm, mm = gh_u (gh_u (gh_u m 58 3 0) 58 4 0) 58 5 0 := ⟨_, rfl⟩
  rw [← hmm]
  have hxm : gx [58] m mm := by
    rw [hmm]
    exact gx_u (gx_u (gx_u gx_rf (by decide)) (by decide)) (by decide)
  have om : ∀ y, y ≠ 3 → y ≠ 4 → y ≠ 5 → mm 58 y = m 58 y := fun y a b c => by
    rw [hmm, gh_u_i c, gh_u_i b, gh_u_i a]
  have m3 : mm 58 3 = 0 := by
    rw [hmm, gh_u_i (by decide), gh_u_i (by decide), gh_u_s]
  have m4 : mm 58 4 = 0 := by
    rw [hmm, gh_u_i (by decide), gh_u_s]
  have m5 : mm 58 5 = 0 := by
    rw [hmm, gh_u_s]
  clear hmm
  refine ⟨fun a m1 => 0 ≤ a ∧ a ≤ m 58 10 ∧ gx [58] m m1 ∧ (∀ y, y ≠ 3 → y ≠ 4 → y ≠ 5 → m1 58 y = m 58 y) ∧ m1 58 3 = gsum (fun a => gy_f G E U V (rw a)) a.toNat ∧ m1 58 5 = gsum (fun a => gy_f G E U V (rw a) * (rw a).length) a.toNat ∧ gbs (gm_N G).toNat (m1 58 4) ∧ ∀ n, 0 ≤ n → (gb (m1 58 4) n ↔ ∃ b, 0 ≤ b ∧ b < a ∧ n < gm_N G ∧ gy_P G E U V n (rw b)), fun a _ => (400 - a).toNat, ⟨Int.le_refl _, q0, hxm, om, m3, m5, by rw [m4]; exact gbs_0 _, fun n _ => ⟨fun y => absurd (by rw [m4] at y; exact y) (gb_0 n), fun ⟨b, b0, b1, _⟩ => by omega⟩⟩, ?_⟩
  clear m3 m4 m5 om hxm
  rintro a m1 ⟨a0, a1, hx, o, h3, h5, g4, h4⟩
  unfold f_Proper_countUseful_166
  rw [o 10 (by decide) (by decide) (by decide), hx 60 (by decide), hx 61 (by decide)]
  refine ⟨fun c => ⟨a0, by omega, ?_⟩, fun c => ?_⟩
  · obtain ⟨k1, k2, k3, k4, k5⟩ := each a a0 c
    refine gy_namesIn hG c8 k1 k3 (fun X gX hX => ⟨fun _ => ⟨a0, by omega⟩, ?_⟩)
    intro w hw
    have hed := ed X a hX gX
    have gw : gbs (gm_N G).toNat w ∧ ∀ n, 0 ≤ n → (gb w n ↔ n < gm_N G ∧ gy_P G E U V n (rw a)) := by
      by_cases t : gh_iand_f X (gh_ixor_f e (-1)) = 0
      · rw [if_pos t] at hw
        rw [hw]
        refine ⟨gbs_and (by omega) k4 gf.1, fun n n0 => ?_⟩
        rw [gb_iand (by omega) k4 gf.1, pr n n0]
        constructor
        · rintro ⟨y1, y2⟩
          have o := own a a0 c n n0 y1
          refine ⟨o.1, ?_, ?_, ?_⟩
          · rw [← hHS]
            exact o.2
          · rw [← hHS]
            exact y2
          · rw [← hHS]
            exact hed.mp t
        · rintro ⟨n1, y1, y2, y3⟩
          exact ⟨(k5 n n0 n1).mpr y1, by rw [hHS]; exact y2⟩
      · rw [if_neg t] at hw
        rw [hw]
        refine ⟨gbs_0 _, fun n n0 => ⟨fun y => absurd y (gb_0 n), fun y => absurd (hed.mpr ?_) t⟩⟩
        rw [hHS]
        exact y.2.2.2
    have pop : gh_pop w = gy_f G E U V (rw a) := by
      rw [gy_pop (by omega) gw.1]
      exact gsum_cg _ (fun n n0 n1 => gt_ib_cg (by
        rw [gw.2 n n0]
        exact ⟨fun y => y.2, fun y => ⟨by omega, y⟩⟩))
    have fb := gy_f_b hG (E := E) (U := U) (V := V) (rw a)
    have s3 := gsum_nn (f := fun a => gy_f G E U V (rw a)) a.toNat (fun x _ _ => (gy_f_b hG (rw x)).1)
    have s3b := gsum_le (f := fun a => gy_f G E U V (rw a)) (B := 8) a.toNat (fun x _ _ => (gy_f_b hG (rw x)).2)
    have mul : ∀ x, 0 ≤ x → x < m 58 10 → 0 ≤ gy_f G E U V (rw x) * (rw x).length ∧ gy_f G E U V (rw x) * (rw x).length ≤ 32 := fun x x0 x1 => by
      have b1 := gy_f_b hG (E := E) (U := U) (V := V) (rw x)
      have b2 := (each x x0 x1).2.1
      refine ⟨Int.mul_nonneg b1.1 (by omega), ?_⟩
      have := Int.mul_le_mul b1.2 (by omega : ((rw x).length : Int) ≤ 4) (by omega) (by decide)
      omega
    have s5 := gsum_nn (f := fun a => gy_f G E U V (rw a) * (rw a).length) a.toNat (fun x x0 x1 => (mul x x0 (by omega)).1)
    have s5b := gsum_le (f := fun a => gy_f G E U V (rw a) * (rw a).length) (B := 32) a.toNat (fun x x0 x1 => (mul x x0 (by omega)).2)
    have ma := mul a a0 c
    have e1 : (a + 1).toNat = a.toNat + 1 := by omega
    have e2 : ((a.toNat : Nat) : Int) = a := by omega
    rw [pop]
    refine ⟨by omega, a0, by omega, gy_lengthOf hG c8 k1 k2 k3 ⟨by omega, by omega, by omega, ⟨by omega, by omega, ?_, fun y y3 y4 y5 => ?_, ?_, ?_, ?_, fun n n0 => ?_⟩, by (try dsimp only); omega⟩⟩
    · exact gx_u (gx_u (gx_u hx (by decide)) (by decide)) (by decide)
    · rw [gh_u_i y5, gh_u_i y4, gh_u_i y3]
      exact o y y3 y4 y5
    · rw [gh_u_i (by decide), gh_u_i (by decide), gh_u_s, h3, e1]
      show _ = gsum _ a.toNat + gy_f G E U V (rw ((a.toNat : Nat) : Int))
      rw [e2]
    · rw [gh_u_s, h5, e1]
      show _ = gsum _ a.toNat + gy_f G E U V (rw ((a.toNat : Nat) : Int)) * (rw ((a.toNat : Nat) : Int)).length
      rw [e2]
    · rw [gh_u_i (by decide), gh_u_s]
      exact gbs_or (by omega) g4 gw.1
    · rw [gh_u_i (by decide), gh_u_s, gb_ior (by omega) g4 gw.1, h4 n n0, gw.2 n n0]
      constructor
      · rintro (⟨b, b0, b1, y⟩ | y)
        · exact ⟨b, b0, by omega, y⟩
        · exact ⟨a, a0, by omega, y⟩
      · rintro ⟨b, b0, b1, y⟩
        by_cases u : b = a
        · rw [u] at y
          exact Or.inr y
        · exact Or.inl ⟨b, b0, by omega, y⟩
  · have ea : a = m 58 10 := by omega
    rw [ea] at h3 h5 h4
    have full : ∀ L n, gy_P G E U V n L → ∃ b : Int, 0 ≤ b ∧ b < ((m 58 10).toNat : Nat) ∧ rw b = L := fun L n y => by
      obtain ⟨b, b0, b1, b2⟩ := all n L y.1
      exact ⟨b, b0, by omega, b2⟩
    refine H m1 hx o ⟨⟨(m 58 10).toNat, rw, fun x y x0 x1 y0 y1 => inj x y x0 (by omega) y0 (by omega), fun L y => ?_, h3⟩, ?_, ⟨(m 58 10).toNat, rw, fun x y x0 x1 y0 y1 => inj x y x0 (by omega) y0 (by omega), fun L y => ?_, h5⟩⟩
    · obtain ⟨n, _, _, z⟩ := gy_f_x y
      exact full L n z
    · rw [gy_pop (by omega) g4]
      refine gsum_cg _ (fun n n0 n1 => gt_ib_cg ?_)
      rw [h4 n n0]
      constructor
      · rintro ⟨b, _, _, _, y⟩
        exact ⟨_, y⟩
      · rintro ⟨L, y⟩
        obtain ⟨b, b0, b1, b2⟩ := full L n y
        exact ⟨b, b0, by omega, by omega, by rw [b2]; exact y⟩
    · obtain ⟨n, _, _, z⟩ := gy_f_x (fun w => y (by
        show gy_f G E U V L * _ = 0
        rw [w, Int.zero_mul]))
      exact full L n z
theorem gy_find {G : gm_G} {m : gh_M} {Q : Int → gh_M → Prop} (hG : gm_ok G) (hC : gm_C m G) (hE : gbs 8 (m 20 1)) (hU : gbs 31 (m 20 5)) (hV : gbs 31 (m 20 4)) (old : m 58 2 ≠ 0 → gy_res G (m 20 1) (gb (m 20 5)) (gb (m 20 4)) (m 58 3) (gh_pop (m 58 4)) (m 58 5)) (H : ∀ m2, gx [58, 59, 60, 61, 62] m m2 → (∀ y, y < 2 → m2 58 y = m 58 y) → m2 58 2 ≠ 0 → (m2 58 2 = m 58 2 ∨ m2 58 2 = 1) → gy_res G (m 20 1) (gb (m 20 5)) (gb (m 20 4)) (m2 58 3) (gh_pop (m2 58 4)) (m2 58 5) → Q 0 m2) : w_Proper_find m Q := by
  have hN0 := hG.1
  have hN := hG.2.1
  have hR0 := hG.2.2.1
  have hR := hG.2.2.2.1
  unfold w_Proper_find
  refine ⟨fun c => ?_, fun c => H m gx_rf (fun _ _ => rfl) c (Or.inl rfl) (old c)⟩
  obtain ⟨mm, hmm⟩ : ∃ mm, mm = gh_fil (gh_u (gh_u (gh_u m 58 2 1) 58 7 0) 58 10 0) 62 8 0 := ⟨_, rfl⟩
  rw [← hmm]
  have hxm : gx [58, 59, 60, 61, 62] m mm := by
    rw [hmm]
    exact gx_fil (gx_u (gx_u (gx_u gx_rf (by decide)) (by decide)) (by decide)) (by decide)
  have f58 : ∀ y, mm 58 y = gh_u (gh_u (gh_u m 58 2 1) 58 7 0) 58 10 0 58 y := fun y => by
    rw [hmm]
    exact if_neg (fun z => absurd z.1 (by decide))
  have om : ∀ y, y < 2 → mm 58 y = m 58 y := fun y y2 => by
    rw [f58, gh_u_i (by omega), gh_u_i (by omega), gh_u_i (by omega)]
  have m2' : mm 58 2 = 1 := by
    rw [f58, gh_u_i (by decide), gh_u_i (by decide), gh_u_s]
  have m7 : mm 58 7 = 0 := by
    rw [f58, gh_u_i (by decide), gh_u_s]
  have m10 : mm 58 10 = 0 := by
    rw [f58, gh_u_s]
  have m62 : ∀ n, 0 ≤ n → n < 8 → mm 62 n = 0 := fun n n0 n1 => by
    rw [hmm]
    exact if_pos ⟨rfl, n0, n1⟩
  clear hmm f58
  refine ⟨fun r m1 => 0 ≤ r ∧ r ≤ gm_R G ∧ gx [58, 59, 60, 61, 62] m m1 ∧ (∀ y, y < 2 → m1 58 y = m 58 y) ∧ m1 58 2 = 1 ∧ gy_ci G (gy_pk G (m 20 1) (gb (m 20 5)) (gb (m 20 4)) r 0) (16 * r) m1, fun r _ => (30 - r).toNat, ⟨Int.le_refl _, hR0, hxm, om, m2', ?_⟩, ?_⟩
  · have no : ∀ n L, ¬ gy_pk G (m 20 1) (gb (m 20 5)) (gb (m 20 4)) 0 0 n L := fun n L ⟨q, v, a1, a2, a3, a4, a5, _⟩ => by omega
    unfold gy_ci gy_tb
    rw [m7, m10]
    refine ⟨⟨Int.le_refl _, fun a b a0 a1 => by omega, by omega⟩, ⟨Int.le_refl _, by omega⟩, fun a b a0 a1 => by omega, fun a a0 a1 => by omega, fun n L y => absurd y (no n L), fun n n0 n1 => ?_⟩
    rw [m62 n n0 (by omega)]
    exact ⟨gbs_0 _, fun k _ => ⟨fun y => absurd y (gb_0 k), fun y => absurd y (no _ _)⟩⟩
  rintro r m1 ⟨r0, r1, hx, o, h2, ci⟩
  have cm := gm_C_x hx (by decide) hC
  have e20 : m1 20 = m 20 := hx 20 (by decide)
  unfold f_Proper_find_33
  rw [cm.2.1]
  refine ⟨fun c2 => ?_, fun c2 => ?_⟩
  · obtain ⟨p1, p2, p3, p4, p5⟩ := hG.2.2.2.2.1 r r0 c2
    have eo := (cm.2.2 r r0 c2).1
    have t1 := gb_test0 (x := m 20 5) (i := r) hU r0 (by omega)
    have t2 := gb_test0 (x := m 20 4) (i := gm_o G r) hV p1 (by omega)
    unfold p_Facts_isUsefulRule
    rw [e20, eo]
    refine ⟨fun m3 => gx [58, 59, 60, 61, 62] m m3 ∧ (∀ y, y < 2 → m3 58 y = m 58 y) ∧ m3 58 2 = 1 ∧ gy_ci G (gy_pk G (m 20 1) (gb (m 20 5)) (gb (m 20 4)) (r + 1) 0) (16 * (r + 1)) m3, fun m3 y => ⟨by omega, ⟨by omega, by omega, y⟩, by (try dsimp only); omega⟩, fun _ => ⟨r0, by omega⟩, fun t => ⟨hx, o, h2, gy_ci_cg (gy_pk_no ?_) (by omega) ci⟩, fun t => ?_⟩
    · rintro ⟨y1, y2⟩
      rcases t with t | t
      · exact t (fun z => t1.mp z y1)
      · exact t2.mp t y2
    · have y1 : gb (m 20 5) r := Classical.byContradiction (fun y => t (Or.inl (fun z => z (t1.mpr y))))
      have y2 : gb (m 20 4) (gm_o G r) := Classical.byContradiction (fun y => t (Or.inr (t2.mpr y)))
      refine gy_addRows hG cm (by rw [e20]; exact gbs_le hE (by decide)) (by rw [e20]) r0 c2 y1 y2 ci (by omega) (fun m3 hx3 o3 ci3 => ⟨gx_t hx hx3, fun y yy => ?_, ?_, gy_ci_cg (fun _ _ => Iff.rfl) (by omega) ci3⟩)
      · rw [o3 y (by omega) (by omega)]
        exact o y yy
      · rw [o3 2 (by decide) (by decide)]
        exact h2
  · have er : r = gm_R G := by omega
    rw [er] at ci
    refine gy_shareRows hG cm (gy_ci_cg (gy_pk_e hG) (by omega) ci) (fun m3 rw hx3 cs => ?_)
    refine gy_countUseful hG (gm_C_x hx3 (by decide) cm) cs (fun m4 hx4 o4 res => H m4 (gx_t hx (gx_t (gx_sub hx3 (by decide)) (gx_sub hx4 (by decide)))) (fun y yy => ?_) ?_ (Or.inr ?_) res)
    · rw [o4 y (by omega) (by omega) (by omega), hx3 58 (by decide)]
      exact o y yy
    · rw [o4 2 (by decide) (by decide) (by decide), hx3 58 (by decide), h2]
      decide
    · rw [o4 2 (by decide) (by decide) (by decide), hx3 58 (by decide), h2]
