/-- how many of the numbers below n have p -/
def gct (p : Int → Bool) : Nat → Nat
  | 0 => 0
  | k + 1 => gct p k + (p k).toNat
theorem gct_le (p : Int → Bool) : ∀ n, gct p n ≤ n
  | 0 => Nat.le_refl _
  | k + 1 => by
    have h := gct_le p k
    have h2 := Bool.toNat_le (p k)
    unfold gct
    omega
theorem gct_mono {p q : Int → Bool} : ∀ n : Nat, (∀ i : Int, 0 ≤ i → i < n → p i = true → q i = true) → gct p n ≤ gct q n
  | 0, _ => Nat.le_refl _
  | k + 1, h => by
    have h1 := gct_mono (p := p) (q := q) k (fun i a b => h i a (by omega))
    have h2 := h k (by omega) (by omega)
    unfold gct
    cases z : p k
    · simp only [Bool.toNat_false]
      omega
    · rw [h2 z]
      omega
theorem gct_lt {p q : Int → Bool} : ∀ n : Nat, (∀ i : Int, 0 ≤ i → i < n → p i = true → q i = true) → ∀ i : Int, 0 ≤ i → i < n → q i = true → p i = false → gct p n < gct q n
  | 0, _, i, a, b, _, _ => by omega
  | k + 1, h, i, a, b, hq, hp => by
    by_cases c : i < k
    · have h1 := gct_lt (p := p) (q := q) k (fun i a b => h i a (by omega)) i a c hq hp
      have h2 := h k (by omega) (by omega)
      unfold gct
      cases z : p k
      · simp only [Bool.toNat_false]
        omega
      · rw [h2 z]
        omega
    · have h1 := gct_mono (p := p) (q := q) k (fun i a b => h i a (by omega))
      have e : i = (k : Int) := by omega
      subst e
      unfold gct
      rw [hq, hp]
      simp only [Bool.toNat_true, Bool.toNat_false]
      omega
theorem gct_full {p : Int → Bool} : ∀ n : Nat, n ≤ gct p n → ∀ i : Int, 0 ≤ i → i < n → p i = true
  | 0, _, i, a, b => by omega
  | k + 1, h, i, a, b => by
    have h1 := gct_le p k
    have h2 := Bool.toNat_le (p k)
    unfold gct at h
    by_cases c : i < k
    · exact gct_full k (by omega) i a c
    · have e : i = (k : Int) := by omega
      subst e
      cases z : p k
      · rw [z] at h
        simp only [Bool.toNat_false] at h
        omega
      · rfl
/-- the letters of a part, by the letters L of the names -/
def gm_lv (G : gm_G) (L : Int → Int) (r d : Int) : Int := if gm_n G r d = -1 then 1 else L (gm_n G r d)
/-- those of k parts from d on -/
def gm_ls (G : gm_G) (L : Int → Int) (r : Int) : Int → Nat → Int
  | _, 0 => 0
  | d, k + 1 => gm_lv G L r d + gm_ls G L r (d + 1) k
def gm_lr (G : gm_G) (L : Int → Int) (r a : Int) : Int := min (gm_ls G L r a (gm_s G r - a).toNat) 16777216
def gm_Lr (G : gm_G) (L : Int → Int) : Prop := ∀ i, 0 ≤ i → i < gm_N G → 0 ≤ L i ∧ L i ≤ 16777216
def gm_Lcl (G : gm_G) (L : Int → Int) : Prop := ∀ r, 0 ≤ r → r < gm_R G → L (gm_o G r) ≤ gm_lr G L r 0
def gm_Lso (G : gm_G) (L : Int → Int) : Prop := ∀ Z, gm_Lr G Z → gm_Lcl G Z → ∀ i, 0 ≤ i → i < gm_N G → Z i ≤ L i
theorem gm_lv_mono {G : gm_G} (hG : gm_ok G) {L Z : Int → Int} {r d : Int} (r0 : 0 ≤ r) (r1 : r < gm_R G) (d0 : 0 ≤ d) (d1 : d < gm_s G r) (h : ∀ i, 0 ≤ i → i < gm_N G → L i ≤ Z i) : gm_lv G L r d ≤ gm_lv G Z r d := by
  unfold gm_lv
  rcases gm_n_rng hG r0 r1 d0 d1 with e | ⟨e1, e2⟩
  · rw [if_pos e, if_pos e]
    exact Int.le_refl _
  · rw [if_neg (by omega), if_neg (by omega)]
    exact h _ e1 e2
theorem gm_ls_mono {G : gm_G} (hG : gm_ok G) {L Z : Int → Int} {r : Int} (r0 : 0 ≤ r) (r1 : r < gm_R G) (h : ∀ i, 0 ≤ i → i < gm_N G → L i ≤ Z i) : ∀ (k : Nat) (d : Int), 0 ≤ d → d + k ≤ gm_s G r → gm_ls G L r d k ≤ gm_ls G Z r d k
  | 0, _, _, _ => Int.le_refl _
  | k + 1, d, d0, d1 => by
    have h1 := gm_ls_mono hG r0 r1 h k (d + 1) (by omega) (by omega)
    have h2 := gm_lv_mono hG r0 r1 d0 (by omega) h
    unfold gm_ls
    omega
theorem gm_ls_gt {G : gm_G} (hG : gm_ok G) {L Z : Int → Int} {r : Int} (r0 : 0 ≤ r) (r1 : r < gm_R G) (h : ∀ i, 0 ≤ i → i < gm_N G → L i ≤ Z i) {e : Int} (he : gm_n G r e ≠ -1) (hz : L (gm_n G r e) < Z (gm_n G r e)) : ∀ (k : Nat) (d : Int), 0 ≤ d → d + k ≤ gm_s G r → d ≤ e → e < d + k → gm_ls G L r d k < gm_ls G Z r d k
  | 0, d, _, _, a, b => by omega
  | k + 1, d, d0, d1, a, b => by
    have h2 := gm_lv_mono hG r0 r1 d0 (by omega) h
    unfold gm_ls
    by_cases c : d = e
    · have h1 := gm_ls_mono hG r0 r1 h k (d + 1) (by omega) (by omega)
      subst c
      have h3 : gm_lv G L r d < gm_lv G Z r d := by
        unfold gm_lv
        rw [if_neg he, if_neg he]
        exact hz
      omega
    · have h1 := gm_ls_gt hG r0 r1 h he hz k (d + 1) (by omega) (by omega) (by omega) (by omega)
      omega
theorem gm_ls_eq {G : gm_G} {L Z : Int → Int} {r : Int} : ∀ (k : Nat) (d : Int), (∀ e, d ≤ e → e < d + k → gm_n G r e ≠ -1 → L (gm_n G r e) = Z (gm_n G r e)) → gm_ls G L r d k = gm_ls G Z r d k
  | 0, _, _ => rfl
  | k + 1, d, h => by
    have h1 := gm_ls_eq (L := L) (Z := Z) k (d + 1) (fun e a b => h e (by omega) (by omega))
    have h2 : gm_lv G L r d = gm_lv G Z r d := by
      unfold gm_lv
      by_cases c : gm_n G r d = -1
      · rw [if_pos c, if_pos c]
      · rw [if_neg c, if_neg c]
        exact h d (Int.le_refl _) (by omega) c
    unfold gm_ls
    rw [h1, h2]
theorem gm_lr_mono {G : gm_G} (hG : gm_ok G) {L Z : Int → Int} {r a : Int} (r0 : 0 ≤ r) (r1 : r < gm_R G) (a0 : 0 ≤ a) (h : ∀ i, 0 ≤ i → i < gm_N G → L i ≤ Z i) : gm_lr G L r a ≤ gm_lr G Z r a := by
  unfold gm_lr
  by_cases c : a ≤ gm_s G r
  · have h1 := gm_ls_mono hG r0 r1 h (gm_s G r - a).toNat a a0 (by omega)
    omega
  · have e : (gm_s G r - a).toNat = 0 := by omega
    rw [e]
    exact Int.le_refl _
theorem gm_ls_0 {G : gm_G} (hG : gm_ok G) {L : Int → Int} (hL : gm_Lr G L) {r : Int} (r0 : 0 ≤ r) (r1 : r < gm_R G) : ∀ (k : Nat) (d : Int), 0 ≤ d → d + k ≤ gm_s G r → 0 ≤ gm_ls G L r d k ∧ gm_ls G L r d k ≤ 16777216 * k
  | 0, _, _, _ => ⟨Int.le_refl _, Int.le_refl _⟩
  | k + 1, d, d0, d1 => by
    obtain ⟨h1, h2⟩ := gm_ls_0 hG hL r0 r1 k (d + 1) (by omega) (by omega)
    have h3 : 0 ≤ gm_lv G L r d ∧ gm_lv G L r d ≤ 16777216 := by
      unfold gm_lv
      rcases gm_n_rng hG r0 r1 d0 (by omega : d < gm_s G r) with e | ⟨e1, e2⟩
      · rw [if_pos e]
        omega
      · rw [if_neg (by omega)]
        exact hL _ e1 e2
    unfold gm_ls
    omega
/-- where the numbers are not yet the last ones, a rule makes one so whose parts have theirs -/
theorem gm_L_step {G : gm_G} (hG : gm_ok G) {S L : Int → Int} (s1 : gm_Lr G S) (s2 : gm_Lcl G S) (s3 : gm_Lso G S) (l1 : gm_Lr G L) (l2 : ∀ i, 0 ≤ i → i < gm_N G → S i ≤ L i) {i : Int} (i0 : 0 ≤ i) (i1 : i < gm_N G) (i2 : L i ≠ S i) : ∃ r, 0 ≤ r ∧ r < gm_R G ∧ L (gm_o G r) ≠ S (gm_o G r) ∧ S (gm_o G r) = gm_lr G S r 0 ∧ ∀ e, 0 ≤ e → e < gm_s G r → gm_n G r e ≠ -1 → L (gm_n G r e) = S (gm_n G r e) := by
  apply Classical.byContradiction
  intro no
  have hm : ∀ j, 0 ≤ j → j < gm_N G → S j ≤ (if L j = S j then S j else S j + 1) := fun j _ _ => by split <;> omega
  have hr : gm_Lr G (fun j => if L j = S j then S j else S j + 1) := by
    intro j j0 j1
    have a := l2 j j0 j1
    have b := l1 j j0 j1
    have c := s1 j j0 j1
    show 0 ≤ (if L j = S j then S j else S j + 1) ∧ (if L j = S j then S j else S j + 1) ≤ 16777216
    split <;> omega
  have hc : gm_Lcl G (fun j => if L j = S j then S j else S j + 1) := by
    intro r r0 r1
    obtain ⟨p1, p2, p3, p4, p5⟩ := hG.2.2.2.2.1 r r0 r1
    have h1 := s2 r r0 r1
    have h2 := gm_lr_mono hG (a := 0) r0 r1 (Int.le_refl _) hm
    show (if L (gm_o G r) = S (gm_o G r) then S (gm_o G r) else S (gm_o G r) + 1) ≤ _
    by_cases c : L (gm_o G r) = S (gm_o G r)
    · rw [if_pos c]
      omega
    · rw [if_neg c]
      by_cases c2 : S (gm_o G r) = gm_lr G S r 0
      · have ⟨e, he⟩ : ∃ e, ¬ (0 ≤ e → e < gm_s G r → gm_n G r e ≠ -1 → L (gm_n G r e) = S (gm_n G r e)) := Classical.not_forall.mp (fun z => no ⟨r, r0, r1, c, c2, z⟩)
        have e0 : 0 ≤ e := Classical.byContradiction (fun z => he (fun a => absurd a z))
        have e1 : e < gm_s G r := Classical.byContradiction (fun z => he (fun _ a => absurd a z))
        have e2 : gm_n G r e ≠ -1 := fun z => he (fun _ _ a => absurd z a)
        have e3 : L (gm_n G r e) ≠ S (gm_n G r e) := fun z => he (fun _ _ _ => z)
        have h3 := gm_ls_gt hG r0 r1 hm (e := e) e2 (by rw [if_neg e3]; omega) (gm_s G r - 0).toNat 0 (Int.le_refl _) (by omega) e0 (by omega)
        have h4 := l2 _ p1 p2
        have h5 := l1 _ p1 p2
        have h6 := s1 _ p1 p2
        unfold gm_lr at c2 h2 ⊢
        omega
      · omega
  have h := s3 _ hr hc i i0 i1
  have h2 : (if L i = S i then S i else S i + 1) ≤ S i := h
  rw [if_neg i2] at h2
  omega

