/-! THE PROPER GRAMMAR: the class closes over units -/
theorem gm_closeOver62 {m : gh_M} {N : Int} {Q : Int → gh_M → Prop} (h0 : 0 ≤ N) (hN : N ≤ 8) (hb : ∀ n, 0 ≤ n → n < N → gbs N.toNat (m 62 n)) (h : ∀ m1, gx [62] m m1 → (∀ n, 0 ≤ n → n < N → gbs N.toNat (m1 62 n)) → gm_tc N (m 62) (m1 62) → Q 0 m1) : w_Facts_closeOver_62 N m Q := by
  refine ⟨fun k m1 => 0 ≤ k ∧ k ≤ N ∧ gx [62] m m1 ∧ (∀ n, 0 ≤ n → n < N → gbs N.toNat (m1 62 n)) ∧ (∀ n i, 0 ≤ n → n < N → 0 ≤ i → gb (m 62 n) i → gb (m1 62 n) i) ∧ (∀ n j i, 0 ≤ n → n < N → 0 ≤ j → j < k → 0 ≤ i → gb (m1 62 n) j → gb (m1 62 j) i → gb (m1 62 n) i) ∧ ∀ Z : Int → Int → Prop, (∀ n i, 0 ≤ n → n < N → 0 ≤ i → gb (m 62 n) i → Z n i) → (∀ n j i, 0 ≤ n → n < N → 0 ≤ j → j < N → 0 ≤ i → Z n j → Z j i → Z n i) → ∀ n i, 0 ≤ n → n < N → 0 ≤ i → gb (m1 62 n) i → Z n i, fun k _ => (10 - k).toNat, ⟨Int.le_refl _, h0, gx_rf, hb, fun _ _ _ _ _ z => z, fun n j i _ _ a b => by omega, fun Z z1 _ => z1⟩, ?_⟩
  rintro k m1 ⟨k0, k1, hx, hb1, hm, ht, hs⟩
  unfold f_Facts_closeOver_62_2
  refine ⟨fun c => ?_, fun c => h m1 hx hb1 ⟨hm, fun n j i a b c1 d e f g => ht n j i a b c1 (by omega) e f g, hs⟩⟩
  refine ⟨fun n m2 => 0 ≤ n ∧ n ≤ N ∧ gx [62] m m2 ∧ ∀ j, 0 ≤ j → j < N → gbs N.toNat (m2 62 j) ∧ ∀ i, 0 ≤ i → (gb (m2 62 j) i ↔ gb (m1 62 j) i ∨ (j < n ∧ gb (m1 62 j) k ∧ gb (m1 62 k) i)), fun n _ => (10 - n).toNat, ⟨Int.le_refl _, h0, hx, fun j j0 j1 => ⟨hb1 j j0 j1, fun i i0 => ⟨Or.inl, fun z => z.elim id (fun y => by omega)⟩⟩⟩, ?_⟩
  rintro n m2 ⟨n0, n1, hx2, hj⟩
  unfold f_Facts_closeOver_62_9
  refine ⟨fun c2 => ?_, fun c2 => ?_⟩
  · have tn := hj n n0 c2
    have tk := hj k k0 c
    have t1 := gb_test0 (i := k) (gbs_le tn.1 (by omega : N.toNat ≤ 31)) k0 (by omega)
    have kk : gb (m2 62 n) k ↔ gb (m1 62 n) k := by
      rw [tn.2 k k0]
      exact ⟨fun z => z.elim id (fun y => y.2.1), Or.inl⟩
    have ki : ∀ i, 0 ≤ i → (gb (m2 62 k) i ↔ gb (m1 62 k) i) := fun i i0 => by
      rw [tk.2 i i0]
      exact ⟨fun z => z.elim id (fun y => y.2.2), Or.inl⟩
    refine ⟨n0, by omega, fun m3 => gx [62] m m3 ∧ ∀ j, 0 ≤ j → j < N → gbs N.toNat (m3 62 j) ∧ ∀ i, 0 ≤ i → (gb (m3 62 j) i ↔ gb (m1 62 j) i ∨ (j < n + 1 ∧ gb (m1 62 j) k ∧ gb (m1 62 k) i)), ?_, fun z => ⟨hx2, fun j j0 j1 => ⟨(hj j j0 j1).1, fun i i0 => ?_⟩⟩, fun z => ⟨n0, by omega, k0, by omega, n0, by omega, gx_u hx2 (List.mem_singleton.mpr rfl), fun j j0 j1 => ?_⟩⟩
    · rintro m3 ⟨a1, a2⟩
      exact ⟨⟨by omega, by omega⟩, ⟨by omega, by omega, a1, a2⟩, by show (10 - (n + 1)).toNat < (10 - n).toNat; omega⟩
    · rw [(hj j j0 j1).2 i i0]
      constructor
      · rintro (y | ⟨y1, y2⟩)
        · exact Or.inl y
        · exact Or.inr ⟨by omega, y2⟩
      · rintro (y | ⟨y1, y2, y3⟩)
        · exact Or.inl y
        · by_cases e : j = n
          · subst e
            exact absurd (kk.mpr y2) (t1.mp z)
          · exact Or.inr ⟨by omega, y2, y3⟩
    · rw [gm_u_rowa]
      have z2 : gb (m1 62 n) k := kk.mp (Classical.byContradiction (fun y => z (t1.mpr y)))
      unfold gm_upd
      by_cases e : j = n
      · subst e
        rw [if_pos rfl]
        refine ⟨gbs_or (by omega) tn.1 tk.1, fun i i0 => ?_⟩
        rw [gb_ior (by omega) tn.1 tk.1, tn.2 i i0, ki i i0]
        constructor
        · rintro ((y | ⟨y1, y2⟩) | y)
          · exact Or.inl y
          · exact Or.inr ⟨by omega, y2⟩
          · exact Or.inr ⟨by omega, z2, y⟩
        · rintro (y | ⟨y1, y2, y3⟩)
          · exact Or.inl (Or.inl y)
          · exact Or.inr y3
      · rw [if_neg e]
        refine ⟨(hj j j0 j1).1, fun i i0 => ?_⟩
        rw [(hj j j0 j1).2 i i0]
        constructor
        · rintro (y | ⟨y1, y2⟩)
          · exact Or.inl y
          · exact Or.inr ⟨by omega, y2⟩
        · rintro (y | ⟨y1, y2⟩)
          · exact Or.inl y
          · exact Or.inr ⟨by omega, y2⟩
  · have hj2 : ∀ j, 0 ≤ j → j < N → ∀ i, 0 ≤ i → (gb (m2 62 j) i ↔ gb (m1 62 j) i ∨ (gb (m1 62 j) k ∧ gb (m1 62 k) i)) := fun j j0 j1 i i0 => by
      rw [(hj j j0 j1).2 i i0]
      exact ⟨fun z => z.elim Or.inl (fun y => Or.inr y.2), fun z => z.elim Or.inl (fun y => Or.inr ⟨by omega, y⟩)⟩
    refine ⟨⟨by omega, by omega⟩, ⟨by omega, by omega, hx2, fun j j0 j1 => (hj j j0 j1).1, fun j i j0 j1 i0 z => (hj2 j j0 j1 i i0).mpr (Or.inl (hm j i j0 j1 i0 z)), fun a j i a0 a1 j0 j1 i0 z1 z2 => ?_, fun Z y1 y2 j i j0 j1 i0 z => ?_⟩, by show (10 - (k + 1)).toNat < (10 - k).toNat; omega⟩
    · rw [hj2 a a0 a1 j j0] at z1
      rw [hj2 j j0 (by omega) i i0] at z2
      rw [hj2 a a0 a1 i i0]
      by_cases e : j = k
      · subst e
        have w1 : gb (m1 62 a) j := z1.elim id (fun y => y.1)
        have w2 : gb (m1 62 j) i := z2.elim id (fun y => y.2)
        exact Or.inr ⟨w1, w2⟩
      · have j2 : j < k := by omega
        rcases z1 with z1 | ⟨z1, z3⟩
        · rcases z2 with z2 | ⟨z2, z4⟩
          · exact Or.inl (ht a j i a0 a1 j0 j2 i0 z1 z2)
          · exact Or.inr ⟨ht a j k a0 a1 j0 j2 k0 z1 z2, z4⟩
        · rcases z2 with z2 | ⟨z2, z4⟩
          · exact Or.inr ⟨z1, ht k j i k0 c j0 j2 i0 z3 z2⟩
          · exact Or.inr ⟨z1, z4⟩
    · rcases (hj2 j j0 j1 i i0).mp z with z | ⟨z1, z2⟩
      · exact hs Z y1 y2 j i j0 j1 i0 z
      · exact y2 j k i j0 j1 k0 c i0 (hs Z y1 y2 j k j0 j1 k0 z1) (hs Z y1 y2 k i k0 c i0 z2)
theorem gb_iand0 {n : Nat} {x y : Int} (hn : n ≤ 31) (hx : gbs n x) (hy : gbs n y) : gh_iand_f x y = 0 ↔ ∀ i : Int, 0 ≤ i → ¬ (gb x i ∧ gb y i) := by
  constructor
  · intro h i i0 w
    have := (gb_iand (i := i) hn hx hy.1).mpr w
    rw [h] at this
    exact gb_0 i this
  · intro h
    refine gb_ext (gbs_and hn hx hy.1) (gbs_0 n) (fun i i0 _ => ⟨fun w => absurd ((gb_iand hn hx hy.1).mp w) (h i i0), fun w => absurd w (gb_0 i)⟩)
theorem gy_pop8 : ∀ a : Nat, a < 256 → gh_pop a = gsum (fun n => if a.testBit n.toNat then 1 else 0) 8 := by decide +kernel
theorem gy_pop {n : Nat} {x : Int} (hn : n ≤ 8) (hx : gbs n x) : gh_pop x = gsum (fun i => gt_ib (gb x i)) n := by
  obtain ⟨a, ha, ha2⟩ := gbs_nat hx
  have le : a < 256 := Nat.lt_of_lt_of_le ha2 (Nat.pow_le_pow_right (by decide) hn)
  have e8 : gsum (fun i => gt_ib (gb x i)) 8 = gsum (fun i => gt_ib (gb x i)) n := by
    have e : 8 = n + (8 - n) := by omega
    rw [e]
    exact gsum_ext _ (fun i i0 i1 => gt_ib_f (fun w => by
      have := gb_lt hx (by omega) w
      omega))
  rw [← e8, ha, gy_pop8 a le]
  refine gsum_cg 8 (fun i i0 i1 => ?_)
  (try dsimp only)
  by_cases c : a.testBit i.toNat = true
  · rw [if_pos c, gt_ib_t (by unfold gb; rw [Int.toNat_natCast]; exact c)]
  · rw [if_neg c, gt_ib_f (by unfold gb; rw [Int.toNat_natCast]; exact c)]
theorem gy_namesIn {G : gm_G} {m : gh_M} {Q : Int → Prop} {S : Int → Int} {c x : Int} {L : List Int} (hG : gm_ok G) (c8 : c ≤ 80) (okL : gy_ok G L) (en : gy_en S c L x) (H : ∀ X, gbs (gm_N G).toNat X → (∀ i, 0 ≤ i → (gb X i ↔ -1 - i ∈ L)) → Q X) : w_Proper_namesIn x m Q := by
  have hN := hG.2.1
  refine ⟨fun v1 v2 => gbs (gm_N G).toNat v1 ∧ ∃ L2, gy_ok G L2 ∧ gy_en S c L2 v2 ∧ ∀ i, 0 ≤ i → (gb v1 i ∨ -1 - i ∈ L2 ↔ -1 - i ∈ L), fun _ v2 => v2.toNat, ⟨gbs_0 _, L, okL, en, fun i i0 => ⟨fun y => y.elim (fun z => absurd z (gb_0 i)) id, Or.inr⟩⟩, ?_⟩
  rintro v1 v2 ⟨hv, L2, ok2, en2, hi⟩
  have nn := gy_en_nn c8 L2 v2 (gy_ok_p hG ok2) en2
  unfold f_Proper_namesIn_4
  refine ⟨fun z => H v1 hv (fun i i0 => ?_), fun z => ⟨nn.1, ?_⟩⟩
  · have e : L2 = [] := Classical.byContradiction (fun u => by
      have := nn.2 u
      omega)
    rw [← hi i i0, e]
    exact ⟨Or.inl, fun y => y.elim id (fun w => absurd w List.not_mem_nil)⟩
  cases L2 with
  | nil =>
    have e : v2 = 0 := en2
    omega
  | cons p L2 =>
    obtain ⟨y, d, h1, h2, h3⟩ := en2
    have okp := gy_ok_p hG ok2 p List.mem_cons_self
    have pN := ok2 p List.mem_cons_self
    have b := gy_dg_b c8 okp h2
    have ny := gy_en_nn c8 L2 y (fun q hq => gy_ok_p hG ok2 q (List.mem_cons_of_mem _ hq)) h1
    have e1 : v2 % 128 = d := by omega
    have e2 : v2 / 128 = y := by omega
    rw [e1, e2]
    intro v3 hv3
    rw [hv3]
    clear hv3 v3
    refine ⟨fun _ _ => by omega, ?_⟩
    intro v1' hv1
    have bit : gbs (gm_N G).toNat (if d < 1 then 0 else if d ≤ 8 then gh_ishl_f 1 (d - 1) else 0) ∧ ∀ i, 0 ≤ i → (gb (if d < 1 then 0 else if d ≤ 8 then gh_ishl_f 1 (d - 1) else 0) i ↔ -1 - i = p) := by
      rw [if_neg (by omega)]
      rcases h2 with ⟨k1, k2⟩ | ⟨k1, k2, k3, k4⟩
      · have d8 : d ≤ 8 := by
          unfold gy_p at okp
          omega
        rw [if_pos d8]
        refine ⟨gbs_one (by omega) (by omega) (by omega), fun i i0 => ?_⟩
        rw [gb_ishl1 (by omega) (by omega) i0]
        omega
      · rw [if_neg (by omega)]
        exact ⟨gbs_0 _, fun i i0 => ⟨fun w => absurd w (gb_0 i), fun w => by omega⟩⟩
    refine ⟨nn.1, ?_⟩
    intro v2' hv2
    refine ⟨⟨by rw [hv1]; exact gbs_or (by omega) hv bit.1, L2, fun q hq => ok2 q (List.mem_cons_of_mem _ hq), by rw [hv2]; exact h1, fun i i0 => ?_⟩, by (try dsimp only); omega⟩
    rw [hv1, gb_ior (by omega) hv bit.1, bit.2 i i0, ← hi i i0, List.mem_cons]
    constructor
    · rintro ((w | w) | w)
      · exact Or.inl w
      · exact Or.inr (Or.inl w)
      · exact Or.inr (Or.inr w)
    · rintro (w | w | w)
      · exact Or.inl (Or.inl w)
      · exact Or.inl (Or.inr w)
      · exact Or.inr w
theorem gy_lengthOf {G : gm_G} {m : gh_M} {Q : Int → Prop} {S : Int → Int} {c x : Int} {L : List Int} (hG : gm_ok G) (c8 : c ≤ 80) (okL : gy_ok G L) (len : L.length ≤ 4) (en : gy_en S c L x) (H : Q L.length) : w_Proper_lengthOf x m Q := by
  have hN := hG.2.1
  refine ⟨fun v1 v2 => 0 ≤ v1 ∧ ∃ L2, gy_ok G L2 ∧ gy_en S c L2 v2 ∧ v1 + L2.length = L.length, fun _ v2 => v2.toNat, ⟨Int.le_refl _, L, okL, en, by omega⟩, ?_⟩
  rintro v1 v2 ⟨v0, L2, ok2, en2, hi⟩
  have nn := gy_en_nn c8 L2 v2 (gy_ok_p hG ok2) en2
  unfold f_Proper_lengthOf_4
  refine ⟨fun z => ?_, fun z => ⟨by omega, nn.1, ?_⟩⟩
  · have e : L2 = [] := Classical.byContradiction (fun u => by
      have := nn.2 u
      omega)
    rw [e] at hi
    have hi' : v1 + 0 = (L.length : Int) := hi
    have e2 : v1 = L.length := by omega
    rw [e2]
    exact H
  cases L2 with
  | nil =>
    have e : v2 = 0 := en2
    omega
  | cons p L2 =>
    obtain ⟨y, d, h1, h2, h3⟩ := en2
    have okp := gy_ok_p hG ok2 p List.mem_cons_self
    have b := gy_dg_b c8 okp h2
    have ny := gy_en_nn c8 L2 y (fun q hq => gy_ok_p hG ok2 q (List.mem_cons_of_mem _ hq)) h1
    have e2 : v2 / 128 = y := by omega
    have e3 : ((p :: L2).length : Int) = L2.length + 1 := by
      show ((L2.length + 1 : Nat) : Int) = _
      omega
    rw [e2]
    intro v2' hv2
    exact ⟨⟨by omega, L2, fun q hq => ok2 q (List.mem_cons_of_mem _ hq), by rw [hv2]; exact h1, by omega⟩, by (try dsimp only); omega⟩
/-- the class's rows, each with the names that have it in the proper grammar -/
def gy_cs (G : gm_G) (E : Int) (U V : Int → Prop) (rw : Int → List Int) (m : gh_M) : Prop := (0 ≤ m 58 10 ∧ m 58 10 ≤ 320) ∧ m 58 7 ≤ 80 ∧ (∀ a b, 0 ≤ a → a < m 58 10 → 0 ≤ b → b < m 58 10 → rw a = rw b → a = b) ∧ (∀ a, 0 ≤ a → a < m 58 10 → gy_ok G (rw a) ∧ (rw a).length ≤ 4 ∧ gy_en (m 59) (m 58 7) (rw a) (m 60 a) ∧ gbs (gm_N G).toNat (m 61 a) ∧ ∀ n, 0 ≤ n → n < gm_N G → (gb (m 61 a) n ↔ gy_hs G E U V n (rw a))) ∧ ∀ n L, gy_hs G E U V n L → ∃ a, 0 ≤ a ∧ a < m 58 10 ∧ rw a = L
theorem gy_shareRows {G : gm_G} {E : Int} {U V : Int → Prop} {m : gh_M} {Q : Int → gh_M → Prop} (hG : gm_ok G) (hC : gm_C m G) (ci : gy_ci G (gy_lf G E U V) 320 m) (H : ∀ m2 rw, gx [61, 62] m m2 → gy_cs G E U V rw m2 → Q 0 m2) : w_Proper_shareRows m Q := by
  have hN0 := hG.1
  have hN := hG.2.1
  obtain ⟨tb, ⟨q0, q1⟩, inj, each, all, uni⟩ := ci
  have c8 := gy_tb_80 tb
  unfold w_Proper_shareRows
  rw [hC.1]
  refine gm_closeOver62 (by omega) hN (fun n n0 n1 => (uni n n0 n1).1) (fun m1 hx1 hb1 tc => ?_)
  have tp : gm_tcp (gm_N G) (fun a b => gy_lf G E U V a [-1 - b]) (m1 62) := gm_tc_p tc (fun n i n0 n1 i0 => (uni n n0 n1).2 i i0)
  have ⟨rw, hrw⟩ : ∃ rw : Int → List Int, ∀ a, 0 ≤ a → a < m 58 10 → gy_ok G (rw a) ∧ (rw a).length ≤ 4 ∧ rw a ≠ [] ∧ ¬ gy_un (rw a) ∧ gy_en (m 59) (m 58 7) (rw a) (m 60 a) ∧ gbs (gm_N G).toNat (m 61 a) ∧ ∀ n, 0 ≤ n → (gb (m 61 a) n ↔ gy_lf G E U V n (rw a)) := by
    have sk : ∀ a : Int, ∃ L : List Int, 0 ≤ a → a < m 58 10 → gy_ok G L ∧ L.length ≤ 4 ∧ L ≠ [] ∧ ¬ gy_un L ∧ gy_en (m 59) (m 58 7) L (m 60 a) ∧ gbs (gm_N G).toNat (m 61 a) ∧ ∀ n, 0 ≤ n → (gb (m 61 a) n ↔ gy_lf G E U V n L) := by
      intro a
      by_cases c : 0 ≤ a ∧ a < m 58 10
      · obtain ⟨L, h⟩ := each a c.1 c.2
        exact ⟨L, fun _ _ => h⟩
      · exact ⟨[], fun a0 a1 => absurd ⟨a0, a1⟩ c⟩
    exact Classical.skolem.mp sk
  have good : ∀ m2 : gh_M, gx [61] m1 m2 → (∀ a, 0 ≤ a → a < m 58 10 → gbs (gm_N G).toNat (m2 61 a) ∧ ∀ n, 0 ≤ n → n < gm_N G → (gb (m2 61 a) n ↔ gy_lf G E U V n (rw a) ∨ ∃ i, 0 ≤ i ∧ gb (m1 62 n) i ∧ gy_lf G E U V i (rw a))) → Q 0 m2 := by
    intro m2 hx2 h2
    have hx : gx [61, 62] m m2 := gx_t (gx_sub hx1 (by decide)) (gx_sub hx2 (by decide))
    refine H m2 rw hx ?_
    unfold gy_cs
    rw [hx 58 (by decide), hx 59 (by decide), hx 60 (by decide)]
    refine ⟨⟨q0, q1⟩, c8, fun a b a0 a1 b0 b1 e => ?_, fun a a0 a1 => ?_, fun n L h => ?_⟩
    · have ea := (hrw a a0 a1).2.2.2.2.1
      have eb := (hrw b b0 b1).2.2.2.2.1
      rw [e] at ea
      exact inj a b a0 a1 b0 b1 (gy_en_x tb.2.1 _ _ _ ea eb)
    · obtain ⟨k1, k2, k3, k4, k5, k6, k7⟩ := hrw a a0 a1
      refine ⟨k1, k2, k5, (h2 a a0 a1).1, fun n n0 n1 => ?_⟩
      rw [(h2 a a0 a1).2 n n0 n1]
      constructor
      · rintro (y | ⟨i, i0, y1, y2⟩)
        · exact ⟨k4, n, ⟨n0, n1⟩, Or.inl rfl, y⟩
        · have rg := (gy_lf_ok hG y2).2.2
          exact ⟨k4, i, rg, Or.inr ((gy_tc_p tp n0 n1 i0).mp y1), y2⟩
      · rintro ⟨_, i, rg, y | y, y2⟩
        · rw [y]
          exact Or.inl y2
        · exact Or.inr ⟨i, rg.1, (gy_tc_p tp n0 n1 rg.1).mpr y, y2⟩
    · obtain ⟨nu, i, rg, _, y⟩ := h
      obtain ⟨a, a0, a1, a2⟩ := all i L y nu
      obtain ⟨k1, k2, k3, k4, k5, k6, k7⟩ := hrw a a0 a1
      exact ⟨a, a0, a1, gy_en_L c8 _ _ _ (gy_ok_p hG k1) (gy_ok_p hG (gy_lf_ok hG y).1) k5 a2⟩
  have e58 : m1 58 = m 58 := hx1 58 (by decide)
  have e61 : m1 61 = m 61 := hx1 61 (by decide)
  refine ⟨fun a m2 => 0 ≤ a ∧ a ≤ m 58 10 ∧ gx [61] m1 m2 ∧ (∀ b, a ≤ b → m2 61 b = m 61 b) ∧ ∀ b, 0 ≤ b → b < a → gbs (gm_N G).toNat (m2 61 b) ∧ ∀ n, 0 ≤ n → n < gm_N G → (gb (m2 61 b) n ↔ gy_lf G E U V n (rw b) ∨ ∃ i, 0 ≤ i ∧ gb (m1 62 n) i ∧ gy_lf G E U V i (rw b)), fun a _ => (400 - a).toNat, ⟨Int.le_refl _, q0, gx_rf, fun b _ => by rw [e61], fun b x y => by omega⟩, ?_⟩
  rintro a m2 ⟨a0, a1, hx2, hh, hb⟩
  unfold f_Proper_shareRows_16
  rw [hx2 58 (by decide), e58]
  refine ⟨fun c => ⟨a0, by omega, ?_⟩, fun c => good m2 hx2 (fun b b0 b1 => hb b b0 (by omega))⟩
  obtain ⟨k1, k2, k3, k4, k5, k6, k7⟩ := hrw a a0 c
  intro own hown
  rw [hh a (Int.le_refl _)] at hown
  have go : gbs (gm_N G).toNat own := by
    rw [hown]
    exact k6
  refine ⟨fun n m3 => 0 ≤ n ∧ n ≤ gm_N G ∧ gx [61] m1 m3 ∧ (∀ b, b ≠ a → m3 61 b = m2 61 b) ∧ gbs (gm_N G).toNat (m3 61 a) ∧ ∀ j, 0 ≤ j → j < gm_N G → (gb (m3 61 a) j ↔ gy_lf G E U V j (rw a) ∨ (j < n ∧ ∃ i, 0 ≤ i ∧ gb (m1 62 j) i ∧ gy_lf G E U V i (rw a))), fun n _ => (20 - n).toNat, ⟨Int.le_refl _, by omega, hx2, fun _ _ => rfl, by rw [hh a (Int.le_refl _)]; exact k6, fun j j0 j1 => ?_⟩, ?_⟩
  · rw [hh a (Int.le_refl _), k7 j j0]
    exact ⟨Or.inl, fun y => y.elim id (fun z => by omega)⟩
  rintro n m3 ⟨n0, n1, hx3, h3, g3, hj⟩
  have e13 : m3 13 = m 13 := (hx3 13 (by decide)).trans (hx1 13 (by decide))
  unfold f_Proper_shareRows_33
  rw [e13, hC.1, hx3 62 (by decide)]
  refine ⟨fun c2 => ⟨n0, by omega, fun m4 => gx [61] m1 m4 ∧ (∀ b, b ≠ a → m4 61 b = m2 61 b) ∧ gbs (gm_N G).toNat (m4 61 a) ∧ ∀ j, 0 ≤ j → j < gm_N G → (gb (m4 61 a) j ↔ gy_lf G E U V j (rw a) ∨ (j < n + 1 ∧ ∃ i, 0 ≤ i ∧ gb (m1 62 j) i ∧ gy_lf G E U V i (rw a))), fun m4 w => ⟨by omega, ⟨by omega, by omega, w⟩, by (try dsimp only); omega⟩, fun t => ⟨hx3, h3, g3, fun j j0 j1 => ?_⟩, fun t => ⟨by omega, by omega, by omega, by omega, gx_u hx3 (by decide), fun b u => by rw [gh_u_i u]; exact h3 b u, ?_, fun j j0 j1 => ?_⟩⟩, fun c2 => ?_⟩
  · rw [hj j j0 j1]
    refine ⟨fun y => y.imp id (fun z => ⟨by omega, z.2⟩), fun y => y.elim Or.inl (fun z => ?_)⟩
    by_cases u : j = n
    · obtain ⟨i, i0, y1, y2⟩ := z.2
      rw [u] at y1
      exact absurd ⟨y1, by rw [hown]; exact (k7 i i0).mpr y2⟩ ((gb_iand0 (by omega) (hb1 n n0 c2) go).mp t i i0)
    · exact Or.inr ⟨by omega, z.2⟩
  · rw [gh_u_s]
    exact gbs_or (by omega) g3 (gbs_one n0 (by omega) (by omega))
  · rw [gh_u_s, gb_ior (by omega) g3 (gbs_one n0 (by omega) (by omega)), gb_ishl1 n0 (by omega) j0, hj j j0 j1]
    have hit : ∃ i, 0 ≤ i ∧ gb (m1 62 n) i ∧ gy_lf G E U V i (rw a) := Classical.byContradiction (fun y => t ((gb_iand0 (by omega) (hb1 n n0 c2) go).mpr (fun i i0 w => y ⟨i, i0, w.1, (k7 i i0).mp (by rw [← hown]; exact w.2)⟩)))
    constructor
    · rintro ((y | y) | y)
      · exact Or.inl y
      · exact Or.inr ⟨by omega, y.2⟩
      · rw [y]
        exact Or.inr ⟨by omega, hit⟩
    · rintro (y | y)
      · exact Or.inl (Or.inl y)
      · by_cases u : j = n
        · exact Or.inr u
        · exact Or.inl (Or.inr ⟨by omega, y.2⟩)
  · refine ⟨by omega, ⟨by omega, by omega, hx3, fun b b0 => ?_, fun b b0 b1 => ?_⟩, by (try dsimp only); omega⟩
    · rw [h3 b (by omega)]
      exact hh b (by omega)
    · by_cases u : b = a
      · rw [u]
        refine ⟨g3, fun j j0 j1 => ?_⟩
        rw [hj j j0 j1]
        exact ⟨fun y => y.imp id (fun z => z.2), fun y => y.imp id (fun z => ⟨by omega, z⟩)⟩
      · rw [h3 b u]
        exact hb b b0 (by omega)
