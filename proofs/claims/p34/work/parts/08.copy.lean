/-! arraycopy over int rows; the claim's start as a memory -/
def gh_cpy (m : gh_M) (a0 sp a1 dp n : Int) : gh_M := fun a i => if a = a1 ∧ dp ≤ i ∧ i < dp + n then m a0 (sp + (i - dp)) else m a i
theorem gh_cpy_0 {m : gh_M} {a0 sp a1 dp n j : Int} (h : a1 ≠ 0) : gh_cpy m a0 sp a1 dp n 0 j = m 0 j := by
  unfold gh_cpy
  rw [if_neg (fun z => h z.1.symm)]
theorem gh_idx2 {i : Int} (h0 : 0 ≤ i) (h1 : i < 2147483648) : (Int32.ofInt i).toNatClampNeg = i.toNat ∧ ¬ (Int32.ofInt i < 0) := by
  have e : (Int32.ofInt i).toInt = i := gh_i32 ⟨by omega, by omega⟩
  refine ⟨?_, fun h => ?_⟩
  · show (Int32.ofInt i).toInt.toNat = i.toNat
    rw [e]
  · have := Int32.lt_iff_toInt_lt.mp h
    rw [e, gh_z0] at this
    omega
section G6
variable {E : gh_E} {M : gh_I} {d pc : Nat} {L L2 : gh_Ls} {st : gh_St} {m : gh_M} {Q : Int → gh_M → Prop}
theorem gh_copy {idx : Nat} {a0 a1 sp dp n : Int} (hd : decode M.2.1 pc = .ok (.invokestatic idx, 3)) (hlink : Cond.methodLink M.1 idx arraycopyName ∈ gh_tb) (hnat : Cond.native arraycopyName ∈ gh_tb) (hsta : Cond.static arraycopyName ∈ gh_tb) (hini : Cond.initialized "java/lang/System" ∈ gh_tb)
    (hA0 : gh_isA m a0 1) (hA1 : gh_isA m a1 1) (hne : a0 ≠ a1) (h1 : 0 ≤ sp) (h2 : 0 ≤ dp) (h3 : 0 ≤ n) (h4 : sp + n ≤ m 0 (2 * a0 + 1)) (h5 : dp + n ≤ m 0 (2 * a1 + 1)) (hwd : gh_wd st ≤ 8)
    (kk : gh_T E M (d + 1) (pc + 3) L st (gh_cpy m a0 sp a1 dp n) Q) : gh_T E M (d + 1) pc L ((0, n) :: (0, dp) :: (2, a1) :: (0, sp) :: (2, a0) :: st) m Q := by
  have b0 := hA0.1
  have b1 := hA1.1
  have e0 : ∀ j, gh_cpy m a0 sp a1 dp n 0 j = m 0 j := fun j => gh_cpy_0 (by omega)
  intro hp
  have hM := hp.1
  have hM2 : gh_Mok (gh_cpy m a0 sp a1 dp n) := by
    obtain ⟨g1, g2, g3, g4, g5⟩ := hM
    refine ⟨fun k j k1 k2 j1 j2 => ?_, fun k k1 k2 => ?_, by rw [e0]; exact g3, by rw [e0]; exact g4, by rw [e0]; exact g5⟩
    · rw [e0] at k2 j2 ⊢
      unfold gh_cpy
      split
      · rename_i c
        have := g1 a0 (sp + (j - dp)) (by omega) hA0.2.1 (by omega) (by omega)
        rw [hA0.2.2] at this
        rw [c.1, hA1.2.2]; exact this
      · exact g1 k j k1 k2 j1 j2
    · rw [e0] at k2 ⊢
      exact g2 k k1 k2
  obtain ⟨r, m', q1, q2, q3, q4, q6, q5⟩ := kk ⟨hM2, hp.2.1, gh_okt (gh_okt (gh_okt (gh_okt (gh_okt hp.2.2))))⟩
  rw [e0] at q2 q3
  rw [e0, e0] at q5
  refine ⟨r, m', q1, q2, q3, q4, q6, fun p e R s mt args below meth c hE H locs cells slots ls Qs hA hc hs K => ?_⟩
  obtain ⟨hx, hb, hml, hown, hts, -, hf, hlo, hK⟩ := id hE
  have l0 := hM.2.1 a0 (by omega) hA0.2.1
  have l1 := hM.2.1 a1 (by omega) hA1.2.1
  have hc0 := gh_arr hA.1 hA0 (by omega)
  have hc1 := gh_arr hA.1 hA1 (by omega)
  obtain ⟨-, k0, hk0, cm0, hkk0⟩ := (hK.1.2 0 _ rfl).1 (m 0 (2 * a0 + 1)).toNat (fun j => gh_cv E (gh_tg 1 0) (m a0 j))
  obtain ⟨-, k1, hk1, cm1, hkk1⟩ := (hK.1.2 0 _ rfl).1 (m 0 (2 * a1 + 1)).toNat (fun j => gh_cv E (gh_tg 1 0) (m a1 j))
  obtain ⟨s1, s2⟩ := gh_idx2 h1 (by omega)
  obtain ⟨d1, d2⟩ := gh_idx2 h2 (by omega)
  obtain ⟨n1, n2⟩ := gh_idx2 h3 (by omega)
  have hst : gh_sc E ((0, n) :: (0, dp) :: (2, a1) :: (0, sp) :: (2, a0) :: st) = .int (Int32.ofInt n) :: .int (Int32.ofInt dp) :: .ref (gh_ad E a1) :: .int (Int32.ofInt sp) :: .ref (gh_ad E a0) :: gh_sc E st := by
    show gh_cv E 0 n :: gh_cv E 0 dp :: gh_cv E 2 a1 :: gh_cv E 0 sp :: gh_cv E 2 a0 :: gh_sc E st = _
    rw [gh_cv2 E (by omega), gh_cv2 E (by omega)]; rfl
  rw [hst]
  have rng : ∀ z : Int, 0 ≤ z → z < 2147483648 → (Int32.ofInt z).toInt = z := fun z z1 z2 => gh_i32 ⟨by omega, z2⟩
  intro T hT X
  have hw := gh_wd_le (E := E) st
  obtain ⟨vm', X', step⟩ := X.arraycopy hx hown (hts _ hlink) (hts _ hnat) (hts _ hsta) (hts _ hini) (src := gh_ad E a0) (dst := gh_ad E a1) (cs := arrV (E.2.2.1 1) (m 0 (2 * a0 + 1)).toNat (fun j => gh_cv E (gh_tg 1 0) (m a0 j))) (cd := arrV (E.2.2.1 1) (m 0 (2 * a1 + 1)).toNat (fun j => gh_cv E (gh_tg 1 0) (m a1 j))) (srcPos := Int32.ofInt sp) (destPos := Int32.ofInt dp) (n := Int32.ofInt n) (by rw [hT]; exact hc0) (by rw [hT]; exact hc1)
    (fun _ h => by cases h) (fun _ h => by cases h) (fun h => by cases h) (fun h => by cases h) hk0 hk1 hkk0 hkk1 (by simp [refKind]) s2 d2 n2
    (by rw [rng sp h1 (by omega), rng n h3 (by omega), arrV_size]; omega)
    (by rw [rng dp h2 (by omega), rng n h3 (by omega), arrV_size]; omega)
    (fun vm₁ _ i hi => by
      rw [n1] at hi
      rw [s1]
      have e : (arrV (E.2.2.1 1) (m 0 (2 * a0 + 1)).toNat (fun j => gh_cv E (gh_tg 1 0) (m a0 j))).slots.getD (sp.toNat + i) .null = gh_cv E 0 (m a0 ((sp.toNat + i : Nat) : Int)) := by
        rw [Array.getD_eq_getD_getElem?, arrV_read _ _ (by omega)]
        rfl
      refine ⟨?_, ?_⟩
      · rw [e]; rfl
      · rw [e]
        exact trivial)
    (g := F0 mt pc ls (.int (Int32.ofInt n) :: .int (Int32.ofInt dp) :: .ref (gh_ad E a1) :: .int (Int32.ofInt sp) :: .ref (gh_ad E a0) :: gh_sc E st)) rfl (by rw [hml]; exact hA.2.2.1) (rest := gh_sc E st) rfl (by rw [hb]; exact hd) (by omega) (by
      rw [hw]
      have : nativeFrameWords "java/lang/System" "arraycopy" 5 ≤ 20 := by decide +kernel
      show 2 * 0 + _ + _ ≤ _
      omega)
  have e1 : copied (arrV (E.2.2.1 1) (m 0 (2 * a0 + 1)).toNat (fun j => gh_cv E (gh_tg 1 0) (m a0 j))) (arrV (E.2.2.1 1) (m 0 (2 * a1 + 1)).toNat (fun j => gh_cv E (gh_tg 1 0) (m a1 j))) (Int32.ofInt sp) (Int32.ofInt dp) (Int32.ofInt n) = arrV (E.2.2.1 1) (m 0 (2 * a1 + 1)).toNat (fun j => gh_cv E (gh_tg 1 0) (gh_cpy m a0 sp a1 dp n a1 j)) := by
    have := va_copied (fun z : Int => gh_cv E (gh_tg 1 0) z) (E.2.2.1 1) (E.2.2.1 1) (n0 := (m 0 (2 * a0 + 1)).toNat) (n1 := (m 0 (2 * a1 + 1)).toNat) (sp := sp.toNat) (dp := dp.toNat) (n := n.toNat) (fun j => m a0 j) (fun j => m a1 j) (by omega)
    unfold copied
    rw [s1, d1, n1]
    refine this.trans ?_
    congr 1
    funext j
    congr 1
    unfold va_cpy gh_cpy
    by_cases q : dp.toNat ≤ j ∧ j < dp.toNat + n.toNat
    · rw [if_pos q, if_pos ⟨rfl, by omega, by omega⟩]
      show m a0 _ = m a0 _
      congr 1
      omega
    · rw [if_neg q, if_neg (fun z => q (by omega))]
  rw [e1] at X' step
  have hl : gh_ad E a1 < H.size := (Array.getElem?_eq_some_iff.mp hc1).1
  generalize hcell : arrV (E.2.2.1 1) (m 0 (2 * a1 + 1)).toNat (fun j => gh_cv E (gh_tg 1 0) (gh_cpy m a0 sp a1 dp n a1 j)) = cl1 at X' step
  have hheap : ((T.setVm vm').setCell (gh_ad E a1) cl1).heap = H.setIfInBounds (gh_ad E a1) cl1 := by rw [← hT]; rfl
  have oq : ∀ q : Nat, q ≠ gh_ad E a1 → (H.setIfInBounds (gh_ad E a1) cl1)[q]? = H[q]? := fun q hq => by simp [Array.getElem?_setIfInBounds, Ne.symm hq]
  have hR2 : gh_R E (gh_cpy m a0 sp a1 dp n) s (H.setIfInBounds (gh_ad E a1) cl1) := by
    obtain ⟨g1, g2, g3, g4⟩ := hA.1
    refine ⟨fun k k2 k3 => ?_, by rw [e0]; simpa using g2, ⟨g3.1, by rw [e0]; exact g3.2⟩, ?_⟩
    · rw [e0] at k3
      by_cases hk : k = a1
      · subst hk
        unfold gh_cell
        rw [e0, e0, hA1.2.2, if_pos (by omega), hcell]
        simp [Array.getElem?_setIfInBounds, hl]
      · exact gh_cell_congr (g1 k k2 k3) (e0 _) (e0 _) (by funext j; unfold gh_cpy; rw [if_neg (fun z => hk z.1)]) (oq _ (fun h => hk (gh_ad_inj k2 (by omega) h)))
    · rw [e0]
      have e9 : gh_cpy m a0 sp a1 dp n 1 = m 1 := by funext j; unfold gh_cpy; rw [if_neg (fun z => by have := z.1; omega)]
      rw [e9]
      refine g4.kept (oq _ (fun h => ?_))
      have := gh_ad_ge (E := E) b1
      have := g3.1
      omega
  obtain ⟨t, a1', b1'⟩ := q5 p e R s mt args below meth c hE _ _ cells slots ls Qs ⟨hR2, ⟨by simp; exact hA.2.1.1, fun q g1 g2 => by
      rw [oq q (fun e => g2 (by rw [e]; exact gh_ad_ge b1))]
      exact hA.2.1.2.1 q g1 g2, fun q hq => by
      rcases List.mem_append.mp hq with h | h
      · exact hA.2.1.2.2 q h
      · obtain ⟨z, -, hz⟩ := List.mem_map.mp h
        rw [← hz]
        exact gh_ad_ge b1⟩, hA.2.2⟩ hc hs K _ hheap X'
  exact ⟨t, step t a1', b1'⟩
end G6
