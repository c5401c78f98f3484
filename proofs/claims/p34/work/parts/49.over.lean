/-! OVER: what each name leads to -/
theorem gm_u_rowa (m : gh_M) (a i v : Int) : (gh_u m a i v) a = gm_upd (m a) i v := by
  funext j
  unfold gh_u gm_upd
  by_cases c : j = i
  · rw [if_pos ⟨rfl, c⟩, if_pos c]
  · rw [if_neg (fun z => c z.2), if_neg c]
/-- T is A with all that it leads to over others, and no more -/
def gm_tc (N : Int) (A T : Int → Int) : Prop := (∀ n i, 0 ≤ n → n < N → 0 ≤ i → gb (A n) i → gb (T n) i) ∧ (∀ n j i, 0 ≤ n → n < N → 0 ≤ j → j < N → 0 ≤ i → gb (T n) j → gb (T j) i → gb (T n) i) ∧ ∀ Z : Int → Int → Prop, (∀ n i, 0 ≤ n → n < N → 0 ≤ i → gb (A n) i → Z n i) → (∀ n j i, 0 ≤ n → n < N → 0 ≤ j → j < N → 0 ≤ i → Z n j → Z j i → Z n i) → ∀ n i, 0 ≤ n → n < N → 0 ≤ i → gb (T n) i → Z n i
theorem gm_closeOver24 {m : gh_M} {N : Int} {Q : Int → gh_M → Prop} (h0 : 0 ≤ N) (hN : N ≤ 8) (hb : ∀ n, 0 ≤ n → n < N → gbs N.toNat (m 24 n)) (h : ∀ m1, gx [24] m m1 → (∀ n, 0 ≤ n → n < N → gbs N.toNat (m1 24 n)) → gm_tc N (m 24) (m1 24) → Q 0 m1) : w_Facts_closeOver_24 N m Q := by
  refine ⟨fun k m1 => 0 ≤ k ∧ k ≤ N ∧ gx [24] m m1 ∧ (∀ n, 0 ≤ n → n < N → gbs N.toNat (m1 24 n)) ∧ (∀ n i, 0 ≤ n → n < N → 0 ≤ i → gb (m 24 n) i → gb (m1 24 n) i) ∧ (∀ n j i, 0 ≤ n → n < N → 0 ≤ j → j < k → 0 ≤ i → gb (m1 24 n) j → gb (m1 24 j) i → gb (m1 24 n) i) ∧ ∀ Z : Int → Int → Prop, (∀ n i, 0 ≤ n → n < N → 0 ≤ i → gb (m 24 n) i → Z n i) → (∀ n j i, 0 ≤ n → n < N → 0 ≤ j → j < N → 0 ≤ i → Z n j → Z j i → Z n i) → ∀ n i, 0 ≤ n → n < N → 0 ≤ i → gb (m1 24 n) i → Z n i, fun k _ => (10 - k).toNat, ⟨Int.le_refl _, h0, gx_rf, hb, fun _ _ _ _ _ z => z, fun n j i _ _ a b => by omega, fun Z z1 _ => z1⟩, ?_⟩
  rintro k m1 ⟨k0, k1, hx, hb1, hm, ht, hs⟩
  unfold f_Facts_closeOver_24_2
  refine ⟨fun c => ?_, fun c => h m1 hx hb1 ⟨hm, fun n j i a b c1 d e f g => ht n j i a b c1 (by omega) e f g, hs⟩⟩
  refine ⟨fun n m2 => 0 ≤ n ∧ n ≤ N ∧ gx [24] m m2 ∧ ∀ j, 0 ≤ j → j < N → gbs N.toNat (m2 24 j) ∧ ∀ i, 0 ≤ i → (gb (m2 24 j) i ↔ gb (m1 24 j) i ∨ (j < n ∧ gb (m1 24 j) k ∧ gb (m1 24 k) i)), fun n _ => (10 - n).toNat, ⟨Int.le_refl _, h0, hx, fun j j0 j1 => ⟨hb1 j j0 j1, fun i i0 => ⟨Or.inl, fun z => z.elim id (fun y => by omega)⟩⟩⟩, ?_⟩
  rintro n m2 ⟨n0, n1, hx2, hj⟩
  unfold f_Facts_closeOver_24_9
  refine ⟨fun c2 => ?_, fun c2 => ?_⟩
  · have tn := hj n n0 c2
    have tk := hj k k0 c
    have t1 := gb_test0 (i := k) (gbs_le tn.1 (by omega : N.toNat ≤ 31)) k0 (by omega)
    have kk : gb (m2 24 n) k ↔ gb (m1 24 n) k := by
      rw [tn.2 k k0]
      exact ⟨fun z => z.elim id (fun y => y.2.1), Or.inl⟩
    have ki : ∀ i, 0 ≤ i → (gb (m2 24 k) i ↔ gb (m1 24 k) i) := fun i i0 => by
      rw [tk.2 i i0]
      exact ⟨fun z => z.elim id (fun y => y.2.2), Or.inl⟩
    refine ⟨n0, by omega, fun m3 => gx [24] m m3 ∧ ∀ j, 0 ≤ j → j < N → gbs N.toNat (m3 24 j) ∧ ∀ i, 0 ≤ i → (gb (m3 24 j) i ↔ gb (m1 24 j) i ∨ (j < n + 1 ∧ gb (m1 24 j) k ∧ gb (m1 24 k) i)), ?_, fun z => ⟨hx2, fun j j0 j1 => ⟨(hj j j0 j1).1, fun i i0 => ?_⟩⟩, fun z => ⟨n0, by omega, k0, by omega, n0, by omega, gx_u hx2 (List.mem_singleton.mpr rfl), fun j j0 j1 => ?_⟩⟩
    · rintro m3 ⟨a1, a2⟩
      exact ⟨⟨by omega, by omega⟩, ⟨by omega, by omega, a1, a2⟩, by show (10 - (n + 1)).toNat < (10 - n).toNat; omega⟩
    · rw [(hj j j0 j1).2 i i0]
      constructor
      · rintro (y | ⟨y1, y2⟩)
        · exact Or.inl y
        · exact Or.inr ⟨by omega, y2⟩
      · rintro (y | ⟨y1, y2, y3⟩)
        · exact Or.inl y
        · by_cases e : j = n
          · subst e
            exact absurd (kk.mpr y2) (t1.mp z)
          · exact Or.inr ⟨by omega, y2, y3⟩
    · rw [gm_u_rowa]
      have z2 : gb (m1 24 n) k := kk.mp (Classical.byContradiction (fun y => z (t1.mpr y)))
      unfold gm_upd
      by_cases e : j = n
      · subst e
        rw [if_pos rfl]
        refine ⟨gbs_or (by omega) tn.1 tk.1, fun i i0 => ?_⟩
        rw [gb_ior (by omega) tn.1 tk.1, tn.2 i i0, ki i i0]
        constructor
        · rintro ((y | ⟨y1, y2⟩) | y)
          · exact Or.inl y
          · exact Or.inr ⟨by omega, y2⟩
          · exact Or.inr ⟨by omega, z2, y⟩
        · rintro (y | ⟨y1, y2, y3⟩)
          · exact Or.inl (Or.inl y)
          · exact Or.inr y3
      · rw [if_neg e]
        refine ⟨(hj j j0 j1).1, fun i i0 => ?_⟩
        rw [(hj j j0 j1).2 i i0]
        constructor
        · rintro (y | ⟨y1, y2⟩)
          · exact Or.inl y
          · exact Or.inr ⟨by omega, y2⟩
        · rintro (y | ⟨y1, y2⟩)
          · exact Or.inl y
          · exact Or.inr ⟨by omega, y2⟩
  · have hj2 : ∀ j, 0 ≤ j → j < N → ∀ i, 0 ≤ i → (gb (m2 24 j) i ↔ gb (m1 24 j) i ∨ (gb (m1 24 j) k ∧ gb (m1 24 k) i)) := fun j j0 j1 i i0 => by
      rw [(hj j j0 j1).2 i i0]
      exact ⟨fun z => z.elim Or.inl (fun y => Or.inr y.2), fun z => z.elim Or.inl (fun y => Or.inr ⟨by omega, y⟩)⟩
    refine ⟨⟨by omega, by omega⟩, ⟨by omega, by omega, hx2, fun j j0 j1 => (hj j j0 j1).1, fun j i j0 j1 i0 z => (hj2 j j0 j1 i i0).mpr (Or.inl (hm j i j0 j1 i0 z)), fun a j i a0 a1 j0 j1 i0 z1 z2 => ?_, fun Z y1 y2 j i j0 j1 i0 z => ?_⟩, by show (10 - (k + 1)).toNat < (10 - k).toNat; omega⟩
    · rw [hj2 a a0 a1 j j0] at z1
      rw [hj2 j j0 (by omega) i i0] at z2
      rw [hj2 a a0 a1 i i0]
      by_cases e : j = k
      · subst e
        have w1 : gb (m1 24 a) j := z1.elim id (fun y => y.1)
        have w2 : gb (m1 24 j) i := z2.elim id (fun y => y.2)
        exact Or.inr ⟨w1, w2⟩
      · have j2 : j < k := by omega
        rcases z1 with z1 | ⟨z1, z3⟩
        · rcases z2 with z2 | ⟨z2, z4⟩
          · exact Or.inl (ht a j i a0 a1 j0 j2 i0 z1 z2)
          · exact Or.inr ⟨ht a j k a0 a1 j0 j2 k0 z1 z2, z4⟩
        · rcases z2 with z2 | ⟨z2, z4⟩
          · exact Or.inr ⟨z1, ht k j i k0 c j0 j2 i0 z3 z2⟩
          · exact Or.inr ⟨z1, z4⟩
    · rcases (hj2 j j0 j1 i i0).mp z with z | ⟨z1, z2⟩
      · exact hs Z y1 y2 j i j0 j1 i0 z
      · exact y2 j k i j0 j1 k0 c i0 (hs Z y1 y2 j k j0 j1 k0 z1) (hs Z y1 y2 k i k0 c i0 z2)

