/-! WHAT IS WANTED, WHAT IT TAKES, WITHOUT EMPTY RULES AND UNITS, TREES -/
theorem gl_exC {G : gm_G} (hG : gm_ok G) {U : Int → Prop} {S t : Int → Int} (s1 : gm_Lr G S) : ∀ w : Nat, ∃ C : Int → Int → Int → Int, (∀ n i j : Int, 0 ≤ n → n < gm_N G → 0 ≤ i → i ≤ j → j ≤ 8 → j - i ≤ w → 0 ≤ C n i j ∧ C n i j ≤ 16777216) ∧ (∀ n j : Int, 0 ≤ n → n < gm_N G → C n j j = S n) ∧ ∀ i j : Int, 0 ≤ i → i < j → j ≤ 8 → j - i ≤ w → gr_fin G U t C i j
  | 0 => ⟨fun n _ _ => S n, fun n _ _ n0 n1 _ _ _ _ => s1 n n0 n1, fun _ _ _ _ => rfl, fun i j _ a _ b => by
      have b' : j - i ≤ 0 := b
      omega⟩
  | w + 1 => by
    obtain ⟨C, h1, h2, h3⟩ := gl_exC hG (U := U) (t := t) s1 w
    have ew : ((w + 1 : Nat) : Int) = (w : Int) + 1 := by omega
    have ex : ∀ i j : Int, ∃ L : Int → Int, 0 ≤ i → i < j → j ≤ 8 → j - i = w + 1 → gf_r (gm_N G) 16777216 L ∧ gf_cl (gm_R G) (gm_o G) (gr_F G U t C i j) L ∧ gf_so (gm_N G) (gm_R G) 16777216 (gm_o G) (gr_F G U t C i j) L := fun i j => by
      by_cases v : 0 ≤ i ∧ i < j ∧ j ≤ 8 ∧ j - i = w + 1
      · obtain ⟨v1, v2, v3, v4⟩ := v
        obtain ⟨sys, _⟩ := gr_sys hG (U := U) (t := t) (C := C) v1 v2 v3 (fun n e k n0 n1 e0 ek kj ne => (h1 n e k n0 n1 (by omega) ek (by omega) (by omega)).1)
        obtain ⟨L, hL⟩ := gf_ex (by decide) sys
        exact ⟨L, fun _ _ _ _ => hL⟩
      · exact ⟨fun _ => 0, fun a b c d => absurd ⟨a, b, c, d⟩ v⟩
    obtain ⟨L, hL⟩ : ∃ L : Int → Int → Int → Int, ∀ i j : Int, 0 ≤ i → i < j → j ≤ 8 → j - i = w + 1 → gf_r (gm_N G) 16777216 (L i j) ∧ gf_cl (gm_R G) (gm_o G) (gr_F G U t C i j) (L i j) ∧ gf_so (gm_N G) (gm_R G) 16777216 (gm_o G) (gr_F G U t C i j) (L i j) := ⟨fun i j => Classical.choose (ex i j), fun i j => Classical.choose_spec (ex i j)⟩
    obtain ⟨D, hD⟩ : ∃ D : Int → Int → Int → Int, D = fun (n i j : Int) => if j - i = w + 1 then L i j n else C n i j := ⟨_, rfl⟩
    have D1 : ∀ n i j : Int, j - i = w + 1 → D n i j = L i j n := fun n i j y => by
      rw [hD]
      exact if_pos y
    have D2 : ∀ n i j : Int, j - i ≠ w + 1 → D n i j = C n i j := fun n i j y => by
      rw [hD]
      exact if_neg y
    have bd : ∀ n i j : Int, 0 ≤ n → n < gm_N G → 0 ≤ i → i ≤ j → j ≤ 8 → j - i ≤ w + 1 → 0 ≤ D n i j ∧ D n i j ≤ 16777216 := fun n i j n0 n1 i0 ij j8 y => by
      by_cases u : j - i = w + 1
      · rw [D1 n i j u]
        exact (hL i j i0 (by omega) j8 u).1 n n0 n1
      · rw [D2 n i j u]
        exact h1 n i j n0 n1 i0 ij j8 (by omega)
    refine ⟨D, fun n i j n0 n1 i0 ij j8 y => bd n i j n0 n1 i0 ij j8 (by omega), fun n j n0 n1 => ?_, fun i j i0 ij j8 y => ?_⟩
    · rw [D2 n j j (by omega)]
      exact h2 n j n0 n1
    · obtain ⟨sys, _⟩ := gr_sys hG (U := U) (t := t) (C := D) i0 ij j8 (fun n e k n0 n1 e0 ek kj ne => (bd n e k n0 n1 (by omega) ek (by omega) (by omega)).1)
      have nest : ∀ r Z, 0 ≤ r → r < gm_R G → gr_F G U t C i j r Z = gr_F G U t D i j r Z := fun r Z r0 r1 => gr_F_cg hG r0 r1 (fun _ _ _ => rfl) (fun n e k n0 n1 e0 ek kj ne => (D2 n e k (by omega)).symm)
      by_cases u : j - i = w + 1
      · exact gf_lift sys (L := L i j) (fun n n0 n1 => (D1 n i j u).symm) nest (hL i j i0 ij j8 u)
      · exact gf_lift sys (L := fun n => C n i j) (fun n n0 n1 => (D2 n i j u).symm) nest (h3 i j i0 ij j8 (by omega))
