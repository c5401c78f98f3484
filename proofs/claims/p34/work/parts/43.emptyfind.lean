/-- how many of the numbers below n are in x -/
def gbc (x : Int) : Nat → Nat
  | 0 => 0
  | k + 1 => gbc x k + (x.toNat.testBit k).toNat
theorem gbc_le (x : Int) : ∀ n, gbc x n ≤ n
  | 0 => Nat.le_refl _
  | k + 1 => by
    have h := gbc_le x k
    have h2 := Bool.toNat_le (x.toNat.testBit k)
    unfold gbc
    omega
theorem gb_imp {x y : Int} {k : Nat} (h : gb x k → gb y k) : (x.toNat.testBit k).toNat ≤ (y.toNat.testBit k).toNat := by
  unfold gb at h
  rw [Int.toNat_natCast] at h
  cases hx : x.toNat.testBit k
  · exact Nat.zero_le _
  · rw [h hx]
    exact Nat.le_refl _
theorem gbc_mono {x y : Int} : ∀ n : Nat, (∀ i : Int, 0 ≤ i → i < n → gb x i → gb y i) → gbc x n ≤ gbc y n
  | 0, _ => Nat.le_refl _
  | k + 1, h => by
    have h1 := gbc_mono (x := x) (y := y) k (fun i a b => h i a (by omega))
    have h2 := gb_imp (x := x) (y := y) (k := k) (h k (by omega) (by omega))
    unfold gbc
    omega
theorem gbc_lt {x y : Int} : ∀ n : Nat, (∀ i : Int, 0 ≤ i → i < n → gb x i → gb y i) → ∀ i : Int, 0 ≤ i → i < n → gb y i → ¬ gb x i → gbc x n < gbc y n
  | 0, _, i, a, b, _, _ => by omega
  | k + 1, h, i, a, b, hy, hx => by
    have h2 := gb_imp (x := x) (y := y) (k := k) (h k (by omega) (by omega))
    by_cases c : i < k
    · have h1 := gbc_lt (x := x) (y := y) k (fun i a b => h i a (by omega)) i a c hy hx
      unfold gbc
      omega
    · have h1 := gbc_mono (x := x) (y := y) k (fun i a b => h i a (by omega))
      have e : i = (k : Int) := by omega
      subst e
      unfold gb at hx hy
      rw [Int.toNat_natCast] at hx hy
      have e1 : x.toNat.testBit k = false := by
        cases z : x.toNat.testBit k
        · rfl
        · exact absurd z hx
      unfold gbc
      rw [hy, e1]
      simp only [Bool.toNat_true, Bool.toNat_false]
      omega
theorem gbc_full {x : Int} : ∀ n : Nat, n ≤ gbc x n → ∀ i : Int, 0 ≤ i → i < n → gb x i
  | 0, _, i, a, b => by omega
  | k + 1, h, i, a, b => by
    have h1 := gbc_le x k
    have h2 := Bool.toNat_le (x.toNat.testBit k)
    unfold gbc at h
    by_cases c : i < k
    · exact gbc_full k (by omega) i a c
    · have e : i = (k : Int) := by omega
      subst e
      unfold gb
      rw [Int.toNat_natCast]
      cases z : x.toNat.testBit k
      · rw [z] at h
        simp only [Bool.toNat_false] at h
        omega
      · rfl
/-- the set is closed: the name of a rule, all of whose parts are names of the set, is of the set -/
def gm_Ecl (G : gm_G) (E : Int) : Prop := ∀ r, 0 ≤ r → r < gm_R G → gm_er G E r 0 (-1) → gb E (gm_o G r)
/-- the set lies within every closed one -/
def gm_Eso (G : gm_G) (E : Int) : Prop := ∀ Z, gm_Ecl G Z → ∀ i, 0 ≤ i → gb E i → gb Z i
theorem gm_er_mono {G : gm_G} (hG : gm_ok G) {E Z r a b : Int} (r0 : 0 ≤ r) (r1 : r < gm_R G) (a0 : 0 ≤ a) (h : ∀ i, 0 ≤ i → i < gm_N G → gb E i → gb Z i) (h1 : gm_er G E r a b) : gm_er G Z r a b := by
  intro d d0 d1 d2
  obtain ⟨z1, z2⟩ := h1 d d0 d1 d2
  rcases gm_n_rng hG r0 r1 (d := d) (by omega) d1 with e | ⟨e1, e2⟩
  · exact absurd e z1
  · exact ⟨z1, h _ e1 e2 z2⟩
theorem gm_E_uniq {G : gm_G} {n : Nat} {E F : Int} (hE : gbs n E) (hF : gbs n F) (e1 : gm_Ecl G E) (e2 : gm_Eso G E) (f1 : gm_Ecl G F) (f2 : gm_Eso G F) : E = F :=
  gb_ext hE hF (fun i a _ => ⟨e2 F f1 i a, f2 E e1 i a⟩)
/-- one rule more: the set with the name of a rule of empty parts -/
theorem gm_E_add {G : gm_G} (hG : gm_ok G) {E r : Int} (hE : gbs (gm_N G).toNat E) (hs : gm_Eso G E) (r0 : 0 ≤ r) (r1 : r < gm_R G) (h : gm_er G E r 0 (-1)) : gbs (gm_N G).toNat (gh_ior_f E (gh_ishl_f 1 (gm_o G r))) ∧ gm_Eso G (gh_ior_f E (gh_ishl_f 1 (gm_o G r))) ∧ (∀ i, 0 ≤ i → gb E i → gb (gh_ior_f E (gh_ishl_f 1 (gm_o G r))) i) ∧ gb (gh_ior_f E (gh_ishl_f 1 (gm_o G r))) (gm_o G r) := by
  obtain ⟨g1, g2, g3, g4, g5, g6⟩ := hG
  obtain ⟨p1, p2, p3, p4, p5⟩ := g5 r r0 r1
  have b1 : gbs (gm_N G).toNat (gh_ishl_f 1 (gm_o G r)) := gbs_one p1 (by omega) (by omega)
  have b2 := fun i => gb_ior (i := i) (by omega) hE b1
  have b3 := fun i => gb_ishl1 (i := i) p1 (by omega : gm_o G r < 31)
  refine ⟨gbs_or (by omega) hE b1, fun Z hZ i i0 hi => ?_, fun i _ hi => (b2 i).mpr (Or.inl hi), (b2 _).mpr (Or.inr ((b3 _ p1).mpr rfl))⟩
  rcases (b2 i).mp hi with q | q
  · exact hs Z hZ i i0 q
  · rw [(b3 i i0).mp q]
    exact hZ r r0 r1 (gm_er_mono ⟨g1, g2, g3, g4, g5, g6⟩ r0 r1 (Int.le_refl _) (fun i a _ => hs Z hZ i a) h)

