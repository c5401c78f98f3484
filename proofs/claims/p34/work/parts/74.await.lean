/-! THE CLASS'S NAMES AT PLACES, AND ALL ITEMS -/
theorem gb_xor0 (a b : Nat) : nI a ^^^ nI b = nI (a ^^^ b) := by
  apply Int32.toBitVec_inj.1
  show BitVec.ofNat 32 a ^^^ BitVec.ofNat 32 b = BitVec.ofNat 32 (a ^^^ b)
  apply BitVec.eq_of_getLsbD_eq
  intro i hi
  simp [hi]
theorem gb_less {n : Nat} {x y : Int} (hn : n ≤ 31) (hx : gbs n x) (hy : gbs n y) : gbs n (gh_iand_f x (gh_ixor_f y (-1))) ∧ ∀ i, 0 ≤ i → (gb (gh_iand_f x (gh_ixor_f y (-1))) i ↔ gb x i ∧ ¬ gb y i) := by
  obtain ⟨a, rfl, ha⟩ := gbs_nat hx
  obtain ⟨b, rfl, hb⟩ := gbs_nat hy
  have la : a < 2 ^ 31 := Nat.lt_of_lt_of_le ha (Nat.pow_le_pow_right (by decide) hn)
  have e : gh_iand_f (a : Int) (gh_ixor_f (b : Int) (-1)) = ((a &&& (b ^^^ 4294967295) : Nat) : Int) := by
    unfold gh_iand_f gh_ixor_f
    rw [Int32.ofInt_toInt, gb_of, gb_of]
    have m1 : Int32.ofInt (-1) = nI 4294967295 := by decide +kernel
    rw [m1, gb_xor0, gb_and0]
    exact nI_toInt (Nat.lt_of_le_of_lt Nat.and_le_left la)
  rw [e]
  refine ⟨gbs_of (Nat.lt_of_le_of_lt Nat.and_le_left ha), fun i i0 => ?_⟩
  unfold gb
  have e1 : (a : Int).toNat = a := Int.toNat_natCast _
  have e2 : (b : Int).toNat = b := Int.toNat_natCast _
  have e3 : ((a &&& (b ^^^ 4294967295) : Nat) : Int).toNat = a &&& (b ^^^ 4294967295) := Int.toNat_natCast _
  have e4 : (4294967295 : Nat) = 2 ^ 32 - 1 := rfl
  rw [e1, e2, e3, e4, Nat.testBit_and, Nat.testBit_xor, Nat.testBit_two_pow_sub_one]
  by_cases c : i.toNat < 32
  · rw [decide_eq_true c]
    cases a.testBit i.toNat <;> cases b.testBit i.toNat <;> decide
  · have : a.testBit i.toNat = false := Nat.testBit_lt_two_pow (Nat.lt_of_lt_of_le la (Nat.pow_le_pow_right (by decide) (by omega)))
    rw [this]
    simp
noncomputable def gt_if (P : Prop) (v : Int) : Int := @ite Int P (Classical.propDecidable P) v 0
theorem gt_if_t {P : Prop} {v : Int} (h : P) : gt_if P v = v := if_pos h
theorem gt_if_f {P : Prop} {v : Int} (h : ¬ P) : gt_if P v = 0 := if_neg h
theorem gt_if_cg {P Q : Prop} {v : Int} (h : P ↔ Q) : gt_if P v = gt_if Q v := by
  by_cases c : P
  · rw [gt_if_t c, gt_if_t (h.mp c)]
  · rw [gt_if_f c, gt_if_f (fun y => c (h.mpr y))]
/-- items at k, of the rules PR at their places -/
noncomputable def gt_isum (G : gm_G) (z : Int) (t : Int → Int) (PR : Int → Int → Prop) (k : Int) : Int := gsum (fun x => gt_if (PR (x % 20) (x / 20)) (gt_ic G z t (x % 20) (x / 20) k (gm_s G (x % 20) + 1).toNat)) 180
theorem gt_isum_cg {G : gm_G} {z : Int} {t : Int → Int} {PR PQ : Int → Int → Prop} {k : Int} (h : ∀ r i, PR r i ↔ PQ r i) : gt_isum G z t PR k = gt_isum G z t PQ k := gsum_cg _ (fun x _ _ => gt_if_cg (h _ _))
theorem gt_isum_s {G : gm_G} {z : Int} {t : Int → Int} {PR PQ : Int → Int → Prop} {k r i : Int} (r0 : 0 ≤ r) (r1 : r < 20) (i0 : 0 ≤ i) (i1 : i ≤ 8) (h : ∀ r' i', PQ r' i' ↔ PR r' i' ∨ (r' = r ∧ i' = i)) (hn : ¬ PR r i) : gt_isum G z t PQ k = gt_isum G z t PR k + gt_ic G z t r i k (gm_s G r + 1).toNat := by
  have e1 : (20 * i + r) % 20 = r := by omega
  have e2 : (20 * i + r) / 20 = i := by omega
  unfold gt_isum
  rw [gsum_upd (f := fun x => gt_if (PR (x % 20) (x / 20)) (gt_ic G z t (x % 20) (x / 20) k (gm_s G (x % 20) + 1).toNat)) (x := 20 * i + r) 180 (by omega) (by omega) (fun x x0 x1 xn => gt_if_cg ((h _ _).trans ⟨fun y => y.elim id (fun w => by omega), Or.inl⟩))]
  try dsimp only
  rw [e1, e2, gt_if_t ((h r i).mpr (Or.inr ⟨rfl, rfl⟩)), gt_if_f hn]
  omega
theorem gt_isum_b {G : gm_G} (hG : gm_ok G) {z : Int} {t : Int → Int} {PR : Int → Int → Prop} (hp : ∀ r i, PR r i → 0 ≤ r ∧ r < gm_R G) {k : Int} : 0 ≤ gt_isum G z t PR k ∧ gt_isum G z t PR k ≤ 900 := by
  have each : ∀ x, 0 ≤ gt_if (PR (x % 20) (x / 20)) (gt_ic G z t (x % 20) (x / 20) k (gm_s G (x % 20) + 1).toNat) ∧ gt_if (PR (x % 20) (x / 20)) (gt_ic G z t (x % 20) (x / 20) k (gm_s G (x % 20) + 1).toNat) ≤ 5 := fun x => by
    by_cases c : PR (x % 20) (x / 20)
    · rw [gt_if_t c]
      have := gt_ic_b (G := G) (z := z) (t := t) (r := x % 20) (i := x / 20) (k := k) (gm_s G (x % 20) + 1).toNat
      have s4 := (hG.2.2.2.2.1 _ (hp _ _ c).1 (hp _ _ c).2).2.2.2.1
      omega
    · rw [gt_if_f c]
      omega
  have h1 := gsum_nn (f := fun x => gt_if (PR (x % 20) (x / 20)) (gt_ic G z t (x % 20) (x / 20) k (gm_s G (x % 20) + 1).toNat)) 180 (fun x _ _ => (each x).1)
  have h2 := gsum_le (f := fun x => gt_if (PR (x % 20) (x / 20)) (gt_ic G z t (x % 20) (x / 20) k (gm_s G (x % 20) + 1).toNat)) (B := 5) 180 (fun x _ _ => (each x).2)
  unfold gt_isum
  omega
/-- within await: the rules PR are gone through at their places -/
def gt_aw (G : gm_G) (m0 : gh_M) (PR : Int → Int → Prop) (m : gh_M) : Prop := gx [32, 34] m0 m ∧ (∀ k, 0 ≤ k → k ≤ 8 → gbs 8 (m 32 k)) ∧ (∀ k c, 0 ≤ k → k ≤ 8 → 0 ≤ c → gb (m 32 k) c → gt_S G (m0 26 3) (m0 27) (fun _ => True) True c k) ∧ gb (m 32 0) 0 ∧ (∀ r i d j, PR r i → 0 ≤ d → d < gm_s G r → gm_n G r d ≠ -1 → gt_row G (m0 26 3) (m0 27) (gt_M G (m0 26 3) (m0 27)) r d i j → gb (m 32 j) (gm_n G r d)) ∧ (∀ k, 0 ≤ k → k ≤ 8 → m 34 k = gt_isum G (m0 26 3) (m0 27) PR k) ∧ ∀ r i, PR r i → 0 ≤ r ∧ r < gm_R G ∧ 0 ≤ i ∧ i ≤ m0 26 3
theorem gt_aw_cg {G : gm_G} {m0 m : gh_M} {PR PQ : Int → Int → Prop} (h : ∀ r i, PR r i ↔ PQ r i) (ha : gt_aw G m0 PR m) : gt_aw G m0 PQ m := by
  obtain ⟨a1, a2, a3, a4, a5, a6, a7⟩ := ha
  exact ⟨a1, a2, a3, a4, fun r i d j p => a5 r i d j ((h r i).mpr p), fun k k0 k1 => (a6 k k0 k1).trans (gt_isum_cg h), fun r i p => a7 r i ((h r i).mpr p)⟩
theorem gt_aw_step {m0 m : gh_M} {G : gm_G} {PR : Int → Int → Prop} {Q : Int → gh_M → Prop} (hG : gm_ok G) (hC : gm_C m0 G) (ht : gt_t m0) (hs : gt_full G m0) (ha : gt_aw G m0 PR m) {r i : Int} (r0 : 0 ≤ r) (r1 : r < gm_R G) (i0 : 0 ≤ i) (i1 : i ≤ m0 26 3) (hp : ¬ PR r i) (hb : gb (m 32 i) (gm_o G r)) (h : ∀ m1, gt_aw G m0 (fun r' i' => PR r' i' ∨ (r' = r ∧ i' = i)) m1 → (∀ k c, 0 ≤ k → k ≤ 8 → 0 ≤ c → gb (m 32 k) c → gb (m1 32 k) c) → (∀ k, 0 ≤ k → k < i → m1 32 k = m 32 k) → Q 0 m1) : w_Chart_goThrough_32 r i m Q := by
  have hN := hG.2.1
  have hR := hG.2.2.2.1
  obtain ⟨a1, a2, a3, a4, a5, a6, a7⟩ := ha
  obtain ⟨p1, p2, p3, p4, p5⟩ := hG.2.2.2.2.1 r r0 r1
  have ht2 := ht.2.1
  have e26 : m 26 = m0 26 := a1 26 (by decide)
  have e27 : m 27 = m0 27 := a1 27 (by decide)
  have e31 : m 31 = m0 31 := a1 31 (by decide)
  have hC1 := gm_C_x a1 (by decide) hC
  have ht1 : gt_t m := by
    unfold gt_t
    rw [e26, e27]
    exact ht
  have hs1 : gt_full G m := by
    unfold gt_full gt_tab
    rw [e26, e27, e31]
    exact hs
  refine gt_through hG hC1 ht1 hs1 a2 (fun k k0 k1 => ?_) r0 r1 i0 (by rw [e26]; exact i1) (fun m1 x1 y1 y2 => ?_)
  · rw [a6 k k0 k1]
    have := gt_isum_b hG (z := m0 26 3) (t := m0 27) (PR := PR) (k := k) (fun r i p => ⟨(a7 r i p).1, (a7 r i p).2.1⟩)
    omega
  rw [e26, e27] at y1 y2
  have mono : ∀ k c, 0 ≤ k → k ≤ 8 → 0 ≤ c → gb (m 32 k) c → gb (m1 32 k) c := fun k c k0 k1 c0 w => ((y2 k k0 k1).2 c c0).mpr (Or.inl w)
  refine h m1 ⟨gx_tr (T := [32]) a1 x1, fun k k0 k1 => (y2 k k0 k1).1, fun k c k0 k1 c0 w => ?_, mono 0 0 (by omega) (by omega) (by omega) a4, fun r' i' d j p d0 d1 dn w => ?_, fun k k0 k1 => ?_, fun r' i' p => ?_⟩ mono (fun k k0 k1 => ?_)
  · rcases ((y2 k k0 k1).2 c c0).mp w with w | ⟨d, d0, d1, e, w⟩
    · exact a3 k c k0 k1 c0 w
    · rw [e]
      exact gt_S_cl.2 r d i k r0 r1 d0 d1 trivial (by omega) i0 i1 (a3 i _ i0 (by omega) p1 hb) w
  · rcases p with p | ⟨rfl, rfl⟩
    · have rg := a7 r' i' p
      have y := gt_row_M hG rg.2.2.2 w
      have nn := gm_n_rng hG rg.1 rg.2.1 d0 d1
      exact mono j _ (by omega) (by omega) (by omega) (a5 r' i' d j p d0 d1 dn w)
    · have y := gt_row_M hG i1 w
      have nn := gm_n_rng hG r0 r1 d0 d1
      exact ((y2 j (by omega) (by omega)).2 _ (by omega)).mpr (Or.inr ⟨d, d0, d1, rfl, w⟩)
  · rw [y1 k k0 k1, a6 k k0 k1]
    exact (gt_isum_s r0 (by omega) i0 (by omega) (fun _ _ => Iff.rfl) hp).symm
  · rcases p with p | ⟨rfl, rfl⟩
    · exact a7 r' i' p
    · exact ⟨r0, r1, i0, i1⟩
  · refine gb_ext (y2 k k0 (by omega)).1 (a2 k k0 (by omega)) (fun c c0 _ => ?_)
    rw [(y2 k k0 (by omega)).2 c c0]
    refine ⟨fun w => w.elim id (fun ⟨d, d0, d1, e, w⟩ => ?_), Or.inl⟩
    have := gt_row_M hG i1 w
    omega
theorem gt_await32 {m : gh_M} {G : gm_G} {Q : Int → gh_M → Prop} (hG : gm_ok G) (hC : gm_C m G) (ht : gt_t m) (hs : gt_full G m) (hz : ∀ k, 0 ≤ k → k ≤ 8 → m 34 k = 0) (h : ∀ m1, gx [32, 34] m m1 → (∀ k, 0 ≤ k → k ≤ 8 → gbs 8 (m1 32 k) ∧ ∀ c, 0 ≤ c → (gb (m1 32 k) c ↔ gt_S G (m 26 3) (m 27) (fun _ => True) True c k)) → (∀ k, 0 ≤ k → k ≤ 8 → m1 34 k = gt_isum G (m 26 3) (m 27) (fun r i => 0 ≤ r ∧ r < gm_R G ∧ gt_S G (m 26 3) (m 27) (fun _ => True) True (gm_o G r) i) k) → Q 0 m1) : w_Chart_await_32 0 m Q := by
  have hN0 := hG.1
  have hN := hG.2.1
  have hR0 := hG.2.2.1
  have hR := hG.2.2.2.1
  have ht0 := ht.1
  have ht2 := ht.2.1
  have b0 : ∀ k, 0 ≤ k → k ≤ 8 → (gh_u (gh_fil m 32 9 0) 32 0 1) 32 k = if k = 0 then 1 else 0 := fun k k0 k1 => by
    by_cases e : k = 0
    · rw [e, gh_u_s]
      rfl
    · rw [gh_u_i e, if_neg e]
      unfold gh_fil
      rw [if_pos ⟨rfl, k0, by omega⟩]
  have bs1 : gbs 8 1 := ⟨by decide, by decide⟩
  refine ⟨fun i m1 => 0 ≤ i ∧ i ≤ m 26 3 + 1 ∧ ∃ PR, gt_aw G m PR m1 ∧ ∀ r' i', PR r' i' ↔ 0 ≤ r' ∧ r' < gm_R G ∧ 0 ≤ i' ∧ i' < i ∧ gb (m1 32 i') (gm_o G r'), fun i _ => (20 - i).toNat, ⟨by omega, by omega, fun _ _ => False, ⟨gx_u (gx_fil gx_rf (by decide)) (by decide), fun k k0 k1 => ?_, fun k c k0 k1 c0 w => ?_, ?_, fun _ _ _ _ p => p.elim, fun k k0 k1 => ?_, fun _ _ p => p.elim⟩, fun r' i' => ⟨False.elim, fun w => by omega⟩⟩, ?_⟩
  · rw [b0 k k0 k1]
    split
    · exact bs1
    · exact gbs_0 _
  · rw [b0 k k0 k1] at w
    by_cases e : k = 0
    · rw [if_pos e] at w
      rw [(gb_1 c0).mp w, e]
      exact gt_S_cl.1 trivial
    · rw [if_neg e] at w
      exact absurd w (gb_0 c)
  · rw [b0 0 (by omega) (by omega)]
    exact (gb_1 (by decide)).mpr rfl
  · rw [gh_u_a (by decide)]
    have e : (gh_fil m 32 9 0) 34 k = m 34 k := by
      unfold gh_fil
      rw [if_neg (fun y => absurd y.1 (by decide))]
    rw [e, hz k k0 k1]
    exact (gsum_z _ (fun x _ _ => gt_if_f id)).symm
  rintro i m1 ⟨i0, i1, PR, ha, hp⟩
  have x1 := ha.1
  have e26 : m1 26 = m 26 := x1 26 (by decide)
  unfold f_Chart_await_32_11
  rw [e26]
  refine ⟨fun c => ?_, fun c => ?_⟩
  · refine ⟨fun D v m2 => 0 ≤ v ∧ v ≤ 9 ∧ gbs 8 D ∧ (∀ c, 0 ≤ c → gb D c → gb (m2 32 i) c) ∧ v ≤ gbc D 8 ∧ ∃ PR, gt_aw G m PR m2 ∧ ∀ r' i', PR r' i' ↔ 0 ≤ r' ∧ r' < gm_R G ∧ 0 ≤ i' ∧ ((i' < i ∧ gb (m2 32 i') (gm_o G r')) ∨ (i' = i ∧ gb D (gm_o G r'))), fun _ v _ => (20 - v).toNat, ⟨by omega, by omega, gbs_0 _, fun c c0 w => absurd w (gb_0 c), by omega, PR, ha, fun r' i' => ?_⟩, ?_⟩
    · rw [hp]
      constructor
      · rintro ⟨w1, w2, w3, w4, w5⟩
        exact ⟨w1, w2, w3, Or.inl ⟨w4, w5⟩⟩
      · rintro ⟨w1, w2, w3, ⟨w4, w5⟩ | ⟨w4, w5⟩⟩
        · exact ⟨w1, w2, w3, w4, w5⟩
        · exact absurd w5 (gb_0 _)
    rintro D v m2 ⟨v0, v1, hD, hD2, hv, PR2, ha2, hp2⟩
    have cnt := gbc_le D 8
    have hn2 := ha2.2.1 i i0 (by omega)
    unfold f_Chart_await_32_28
    refine ⟨fun m3 => m3 = m2 ∧ m2 32 i = D, ?_, fun _ => by omega, fun c2 => ⟨rfl, by omega⟩, fun c2 => ⟨by omega, by omega, ?_⟩⟩
    · rintro m3 ⟨e, ed⟩
      rw [e]
      refine ⟨by omega, ⟨by omega, by omega, PR2, ha2, fun r' i' => ?_⟩, by (try dsimp only); omega⟩
      rw [hp2, ← ed]
      constructor
      · rintro ⟨w1, w2, w3, ⟨w4, w5⟩ | ⟨w4, w5⟩⟩
        · exact ⟨w1, w2, w3, by omega, w5⟩
        · rw [w4]
          exact ⟨w1, w2, i0, by omega, w5⟩
      · rintro ⟨w1, w2, w3, w4, w5⟩
        by_cases q : i' = i
        · rw [q] at w5
          exact ⟨w1, w2, w3, Or.inr ⟨q, w5⟩⟩
        · exact ⟨w1, w2, w3, Or.inl ⟨by omega, w5⟩⟩
    · rintro _ rfl
      obtain ⟨o1, o2⟩ := gb_less (by decide : 8 ≤ 31) hn2 hD
      rintro _ rfl
      have d1 := gbs_or (by decide : 8 ≤ 31) hD o1
      have d2 : ∀ c, 0 ≤ c → (gb (gh_ior_f D (gh_iand_f (m2 32 i) (gh_ixor_f D (-1)))) c ↔ gb (m2 32 i) c) := fun c c0 => by
        rw [gb_ior (by decide : 8 ≤ 31) hD o1, o2 c c0]
        constructor
        · rintro (w | w)
          · exact hD2 c c0 w
          · exact w.1
        · intro w
          by_cases q : gb D c
          · exact Or.inl q
          · exact Or.inr ⟨w, q⟩
      have ne : m2 32 i ≠ D := fun y => c2 (Or.inr y)
      have v8 : v ≤ 8 := by omega
      have grow : gbc D 8 < gbc (gh_ior_f D (gh_iand_f (m2 32 i) (gh_ixor_f D (-1)))) 8 := by
        have ⟨j, hj⟩ : ∃ j : Int, ¬ (0 ≤ j → j < (8 : Nat) → (gb (m2 32 i) j ↔ gb D j)) := Classical.not_forall.mp (fun y => ne (gb_ext hn2 hD y))
        have j0 : 0 ≤ j := Classical.byContradiction (fun y => hj (fun a => absurd a y))
        have j1 : j < 8 := Classical.byContradiction (fun y => hj (fun _ a => absurd a (by omega)))
        have j2 : ¬ gb D j := fun y => hj (fun _ _ => ⟨fun _ => y, fun _ => hD2 j j0 y⟩)
        have j3 : gb (m2 32 i) j := Classical.byContradiction (fun y => hj (fun _ _ => ⟨fun w => absurd w y, fun w => absurd w j2⟩))
        exact gbc_lt 8 (fun c c0 _ w => (d2 c c0).mpr (hD2 c c0 w)) j j0 (by omega) ((d2 j j0).mpr j3) j2
      refine ⟨fun r m3 => 0 ≤ r ∧ r ≤ gm_R G ∧ (∀ c, 0 ≤ c → gb (m2 32 i) c → gb (m3 32 i) c) ∧ ∃ PR, gt_aw G m PR m3 ∧ ∀ r' i', PR r' i' ↔ 0 ≤ r' ∧ r' < gm_R G ∧ 0 ≤ i' ∧ ((i' < i ∧ gb (m3 32 i') (gm_o G r')) ∨ (i' = i ∧ (gb D (gm_o G r') ∨ (r' < r ∧ gb (gh_iand_f (m2 32 i) (gh_ixor_f D (-1))) (gm_o G r'))))), fun r _ => (30 - r).toNat, ⟨by omega, by omega, fun _ _ w => w, PR2, ha2, fun r' i' => ?_⟩, ?_⟩
      · rw [hp2]
        constructor
        · rintro ⟨w1, w2, w3, ⟨w4, w5⟩ | ⟨w4, w5⟩⟩
          · exact ⟨w1, w2, w3, Or.inl ⟨w4, w5⟩⟩
          · exact ⟨w1, w2, w3, Or.inr ⟨w4, Or.inl w5⟩⟩
        · rintro ⟨w1, w2, w3, ⟨w4, w5⟩ | ⟨w4, w5 | w5⟩⟩
          · exact ⟨w1, w2, w3, Or.inl ⟨w4, w5⟩⟩
          · exact ⟨w1, w2, w3, Or.inr ⟨w4, w5⟩⟩
          · omega
      rintro r m3 ⟨r0, r1, hm3, PR3, ha3, hp3⟩
      have c3 := gm_C_x ha3.1 (by decide) hC
      unfold f_Chart_await_32_63
      rw [c3.2.1]
      refine ⟨fun c4 => ?_, fun c4 => ⟨by omega, ⟨by omega, by omega, d1, fun c c0 w => hm3 c c0 ((d2 c c0).mp w), by omega, PR3, ha3, fun r' i' => ?_⟩, by (try dsimp only); omega⟩⟩
      · obtain ⟨p1, p2, p3, p4, p5⟩ := hG.2.2.2.2.1 r r0 c4
        rw [(c3.2.2 r r0 c4).1]
        have tst := gb_test0 (i := gm_o G r) (gbs_le o1 (by decide : 8 ≤ 31)) p1 (by omega)
        refine ⟨r0, by omega, fun m4 => (∀ c, 0 ≤ c → gb (m2 32 i) c → gb (m4 32 i) c) ∧ ∃ PR, gt_aw G m PR m4 ∧ ∀ r' i', PR r' i' ↔ 0 ≤ r' ∧ r' < gm_R G ∧ 0 ≤ i' ∧ ((i' < i ∧ gb (m4 32 i') (gm_o G r')) ∨ (i' = i ∧ (gb D (gm_o G r') ∨ (r' < r + 1 ∧ gb (gh_iand_f (m2 32 i) (gh_ixor_f D (-1))) (gm_o G r'))))), ?_, fun w => ⟨hm3, PR3, ha3, fun r' i' => ?_⟩, fun w => ⟨fun _ => ?_, fun w2 => absurd rfl w2⟩⟩
        · rintro m4 ⟨j1, j2⟩
          exact ⟨by omega, ⟨by omega, by omega, j1, j2⟩, by (try dsimp only); omega⟩
        · rw [hp3]
          constructor
          · rintro ⟨w1, w2, w3, ⟨w4, w5⟩ | ⟨w4, w5 | ⟨w5, w6⟩⟩⟩
            · exact ⟨w1, w2, w3, Or.inl ⟨w4, w5⟩⟩
            · exact ⟨w1, w2, w3, Or.inr ⟨w4, Or.inl w5⟩⟩
            · exact ⟨w1, w2, w3, Or.inr ⟨w4, Or.inr ⟨by omega, w6⟩⟩⟩
          · rintro ⟨w1, w2, w3, ⟨w4, w5⟩ | ⟨w4, w5 | ⟨w5, w6⟩⟩⟩
            · exact ⟨w1, w2, w3, Or.inl ⟨w4, w5⟩⟩
            · exact ⟨w1, w2, w3, Or.inr ⟨w4, Or.inl w5⟩⟩
            · by_cases q : r' = r
              · rw [q] at w6
                exact absurd w6 (tst.mp w)
              · exact ⟨w1, w2, w3, Or.inr ⟨w4, Or.inr ⟨by omega, w6⟩⟩⟩
        · have ob : gb (gh_iand_f (m2 32 i) (gh_ixor_f D (-1))) (gm_o G r) := Classical.byContradiction (fun y => w (tst.mpr y))
          have ob2 := (o2 _ p1).mp ob
          have np : ¬ PR3 r i := fun y => by
            rcases ((hp3 r i).mp y).2.2.2 with w | ⟨_, w | w⟩
            · omega
            · exact ob2.2 w
            · omega
          refine gt_aw_step hG hC ht hs ha3 r0 c4 i0 c np (hm3 _ p1 ob2.1) (fun m4 y1 y2 y3 => ⟨fun c c0 w => y2 i c i0 (by omega) c0 (hm3 c c0 w), _, y1, fun r' i' => ?_⟩)
          rw [hp3]
          constructor
          · rintro (⟨w1, w2, w3, ⟨w4, w5⟩ | ⟨w4, w5 | ⟨w5, w6⟩⟩⟩ | ⟨w1, w2⟩)
            · refine ⟨w1, w2, w3, Or.inl ⟨w4, ?_⟩⟩
              rw [y3 i' w3 w4]
              exact w5
            · exact ⟨w1, w2, w3, Or.inr ⟨w4, Or.inl w5⟩⟩
            · exact ⟨w1, w2, w3, Or.inr ⟨w4, Or.inr ⟨by omega, w6⟩⟩⟩
            · rw [w1, w2]
              exact ⟨r0, c4, i0, Or.inr ⟨rfl, Or.inr ⟨by omega, ob⟩⟩⟩
          · rintro ⟨w1, w2, w3, ⟨w4, w5⟩ | ⟨w4, w5 | ⟨w5, w6⟩⟩⟩
            · rw [y3 i' w3 w4] at w5
              exact Or.inl ⟨w1, w2, w3, Or.inl ⟨w4, w5⟩⟩
            · exact Or.inl ⟨w1, w2, w3, Or.inr ⟨w4, Or.inl w5⟩⟩
            · by_cases q : r' = r
              · exact Or.inr ⟨q, w4⟩
              · exact Or.inl ⟨w1, w2, w3, Or.inr ⟨w4, Or.inr ⟨by omega, w6⟩⟩⟩
      · rw [hp3]
        constructor
        · rintro ⟨w1, w2, w3, ⟨w4, w5⟩ | ⟨w4, w5 | ⟨w5, w6⟩⟩⟩
          · exact ⟨w1, w2, w3, Or.inl ⟨w4, w5⟩⟩
          · exact ⟨w1, w2, w3, Or.inr ⟨w4, (gb_ior (by decide : 8 ≤ 31) hD o1).mpr (Or.inl w5)⟩⟩
          · exact ⟨w1, w2, w3, Or.inr ⟨w4, (gb_ior (by decide : 8 ≤ 31) hD o1).mpr (Or.inr w6)⟩⟩
        · rintro ⟨w1, w2, w3, ⟨w4, w5⟩ | ⟨w4, w5⟩⟩
          · exact ⟨w1, w2, w3, Or.inl ⟨w4, w5⟩⟩
          · rcases (gb_ior (by decide : 8 ≤ 31) hD o1).mp w5 with w5 | w5
            · exact ⟨w1, w2, w3, Or.inr ⟨w4, Or.inl w5⟩⟩
            · exact ⟨w1, w2, w3, Or.inr ⟨w4, Or.inr ⟨by omega, w5⟩⟩⟩
  · have hi : i = m 26 3 + 1 := by omega
    obtain ⟨a1, a2, a3, a4, a5, a6, a7⟩ := ha
    have full : ∀ k c, 0 ≤ k → k ≤ 8 → 0 ≤ c → (gb (m1 32 k) c ↔ gt_S G (m 26 3) (m 27) (fun _ => True) True c k) := fun k c k0 k1 c0 => by
      refine ⟨a3 k c k0 k1 c0, fun w => ?_⟩
      refine w (fun n i => gb (m1 32 i) n) ⟨fun _ => a4, fun r d i' j r0 r1 d0 d1 _ dn i0' i1' w1 w2 => ?_⟩
      exact a5 r i' d j ((hp r i').mpr ⟨r0, r1, i0', by omega, w1⟩) d0 d1 dn w2
    refine h m1 a1 (fun k k0 k1 => ⟨a2 k k0 k1, fun c c0 => full k c k0 k1 c0⟩) (fun k k0 k1 => ?_)
    rw [a6 k k0 k1]
    refine gt_isum_cg (fun r' i' => ?_)
    rw [hp]
    constructor
    · rintro ⟨w1, w2, w3, w4, w5⟩
      exact ⟨w1, w2, (full i' _ w3 (by omega) (hG.2.2.2.2.1 r' w1 w2).1).mp w5⟩
    · rintro ⟨w1, w2, w3⟩
      have rg := gt_S_rng hG ht0 w3
      exact ⟨w1, w2, rg.2.2.1, by omega, (full i' _ rg.2.2.1 (by omega) (hG.2.2.2.2.1 r' w1 w2).1).mpr w3⟩

