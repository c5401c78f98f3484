/-! SYSTEMS OF LEAST NUMBERS: L (o r) ≤ F r L; their greatest solution, in rounds -/
theorem gmn_ex (A : Int → Prop) : ∀ k : Nat, ∃ v : Int, 0 ≤ v ∧ v ≤ k ∧ (v = k ∨ A v) ∧ ∀ w, 0 ≤ w → A w → v ≤ w ∨ (k : Int) < w
  | 0 => ⟨0, by omega, by omega, Or.inl rfl, fun w a _ => Or.inl a⟩
  | k + 1 => by
    obtain ⟨v, v0, v1, v2, v3⟩ := gmn_ex A k
    by_cases c : A v
    · refine ⟨v, v0, by omega, Or.inr c, fun w a b => ?_⟩
      rcases v3 w a b with e | e
      · exact Or.inl e
      · exact Or.inl (by omega)
    · have vk : v = k := v2.resolve_right c
      refine ⟨k + 1, by omega, by omega, Or.inl (by omega), fun w a b => ?_⟩
      rcases v3 w a b with e | e
      · by_cases q : w = k
        · rw [q, ← vk] at b
          exact absurd b c
        · have h := v3 w a b
          exact Or.inl (by omega)
      · exact Or.inl (by omega)
/-- the least number of those that A tells, at most K -/
noncomputable def gmn (A : Int → Prop) (K : Int) : Int := Classical.choose (gmn_ex A K.toNat)
theorem gmn_sp {A : Int → Prop} {K : Int} (hK : 0 ≤ K) : 0 ≤ gmn A K ∧ gmn A K ≤ K ∧ (gmn A K = K ∨ A (gmn A K)) ∧ ∀ w, 0 ≤ w → A w → gmn A K ≤ w := by
  obtain ⟨h1, h2, h3, h4⟩ := Classical.choose_spec (gmn_ex A K.toNat)
  have e : ((K.toNat : Nat) : Int) = K := by omega
  have h5 : gmn A K ≤ K := by
    unfold gmn
    omega
  refine ⟨h1, h5, ?_, fun w a b => ?_⟩
  · exact h3.imp (fun y => y.trans e) id
  · rcases h4 w a b with q | q
    · exact q
    · omega
theorem gmn_uniq {A : Int → Prop} {K v : Int} (hK : 0 ≤ K) (h1 : v ≤ K) (h0 : 0 ≤ v) (h2 : v = K ∨ A v) (h3 : ∀ w, 0 ≤ w → w ≤ K → A w → v ≤ w) : v = gmn A K := by
  obtain ⟨a, b, c, d⟩ := gmn_sp (A := A) hK
  have l1 : v ≤ gmn A K := by
    rcases c with c | c
    · omega
    · exact h3 _ a b c
  have l2 : gmn A K ≤ v := by
    rcases h2 with h2 | h2
    · omega
    · exact d v h0 h2
  omega
def gf_r (N K : Int) (L : Int → Int) : Prop := ∀ i, 0 ≤ i → i < N → 0 ≤ L i ∧ L i ≤ K
def gf_cl (R : Int) (o : Int → Int) (F : Int → (Int → Int) → Int) (L : Int → Int) : Prop := ∀ r, 0 ≤ r → r < R → L (o r) ≤ F r L
def gf_so (N R K : Int) (o : Int → Int) (F : Int → (Int → Int) → Int) (L : Int → Int) : Prop := ∀ Z, gf_r N K Z → gf_cl R o F Z → ∀ i, 0 ≤ i → i < N → Z i ≤ L i
/-- a proper system: names in their range, F within 0 and K, and monotone -/
def gf_sys (N R K : Int) (o : Int → Int) (F : Int → (Int → Int) → Int) : Prop := (∀ r, 0 ≤ r → r < R → 0 ≤ o r ∧ o r < N) ∧ (∀ r L, 0 ≤ r → r < R → gf_r N K L → 0 ≤ F r L ∧ F r L ≤ K) ∧ ∀ r L Z, 0 ≤ r → r < R → gf_r N K L → gf_r N K Z → (∀ i, 0 ≤ i → i < N → L i ≤ Z i) → F r L ≤ F r Z
theorem gf_add {N R K : Int} {o : Int → Int} {F : Int → (Int → Int) → Int} (hs : gf_sys N R K o F) {L : Int → Int} (h1 : gf_r N K L) (h2 : gf_so N R K o F L) {r : Int} (r0 : 0 ≤ r) (r1 : r < R) : gf_r N K (gm_upd L (o r) (min (L (o r)) (F r L))) ∧ gf_so N R K o F (gm_upd L (o r) (min (L (o r)) (F r L))) ∧ ∀ i, gm_upd L (o r) (min (L (o r)) (F r L)) i ≤ L i := by
  obtain ⟨p1, p2⟩ := hs.1 r r0 r1
  have q := hs.2.1 r L r0 r1 h1
  have q2 := h1 _ p1 p2
  refine ⟨fun i i0 i1 => ?_, fun Z z1 z2 i i0 i1 => ?_, fun i => ?_⟩
  · have q3 := h1 i i0 i1
    unfold gm_upd
    split <;> omega
  · have q3 := h2 Z z1 z2 i i0 i1
    unfold gm_upd
    split
    · next e =>
      subst e
      have q4 := z2 r r0 r1
      have q5 := hs.2.2 r Z L r0 r1 z1 h1 (h2 Z z1 z2)
      omega
    · exact q3
  · unfold gm_upd
    split
    · next e =>
      subst e
      omega
    · exact Int.le_refl _
theorem gf_ex0 {N R K : Int} {o : Int → Int} {F : Int → (Int → Int) → Int} (hs : gf_sys N R K o F) : ∀ (k : Nat) (L : Int → Int), gm_sum L N.toNat ≤ k → gf_r N K L → gf_so N R K o F L → ∃ S, gf_r N K S ∧ gf_cl R o F S ∧ gf_so N R K o F S := by
  intro k
  induction k with
  | zero =>
    intro L hk h1 h2
    by_cases c : gf_cl R o F L
    · exact ⟨L, h1, c, h2⟩
    · have ⟨r, hr⟩ := Classical.not_forall.mp c
      have r0 : 0 ≤ r := Classical.byContradiction (fun z => hr (fun a => absurd a z))
      have r1 : r < R := Classical.byContradiction (fun z => hr (fun _ a => absurd a z))
      have r2 : ¬ L (o r) ≤ F r L := fun z => hr (fun _ _ => z)
      obtain ⟨p1, p2⟩ := hs.1 r r0 r1
      obtain ⟨a1, a2, a3⟩ := gf_add hs h1 h2 r0 r1
      have q := a1 _ p1 p2
      have e : gm_upd L (o r) (min (L (o r)) (F r L)) (o r) = min (L (o r)) (F r L) := if_pos rfl
      have := gm_sum_lt N.toNat (fun i _ _ => a3 i) (o r) p1 (by omega) q.1 (by omega)
      omega
  | succ k ih =>
    intro L hk h1 h2
    by_cases c : gf_cl R o F L
    · exact ⟨L, h1, c, h2⟩
    · have ⟨r, hr⟩ := Classical.not_forall.mp c
      have r0 : 0 ≤ r := Classical.byContradiction (fun z => hr (fun a => absurd a z))
      have r1 : r < R := Classical.byContradiction (fun z => hr (fun _ a => absurd a z))
      have r2 : ¬ L (o r) ≤ F r L := fun z => hr (fun _ _ => z)
      obtain ⟨p1, p2⟩ := hs.1 r r0 r1
      obtain ⟨a1, a2, a3⟩ := gf_add hs h1 h2 r0 r1
      have q := a1 _ p1 p2
      have e : gm_upd L (o r) (min (L (o r)) (F r L)) (o r) = min (L (o r)) (F r L) := if_pos rfl
      have := gm_sum_lt N.toNat (fun i _ _ => a3 i) (o r) p1 (by omega) q.1 (by omega)
      exact ih _ (by omega) a1 a2
theorem gf_ex {N R K : Int} (hK : 0 ≤ K) {o : Int → Int} {F : Int → (Int → Int) → Int} (hs : gf_sys N R K o F) : ∃ S, gf_r N K S ∧ gf_cl R o F S ∧ gf_so N R K o F S :=
  gf_ex0 hs _ (fun _ => K) (Nat.le_refl _) (fun _ _ _ => ⟨hK, Int.le_refl _⟩) (fun _ z1 _ i i0 i1 => (z1 i i0 i1).2)
/-- what a system tells of a step: where L is above S, F rises by one at least when S is raised by one there -/
def gf_tri (N R K : Int) (F : Int → (Int → Int) → Int) : Prop := ∀ r S L, 0 ≤ r → r < R → gf_r N K S → gf_r N K L → (∀ i, 0 ≤ i → i < N → S i ≤ L i) → F r S < F r L → F r S + 1 ≤ F r (fun i => if L i = S i then S i else S i + 1)
theorem gf_step {N R K : Int} {o : Int → Int} {F : Int → (Int → Int) → Int} (hs : gf_sys N R K o F) (ht : gf_tri N R K F) {S L : Int → Int} (s1 : gf_r N K S) (s2 : gf_cl R o F S) (s3 : gf_so N R K o F S) (l1 : gf_r N K L) (l2 : ∀ i, 0 ≤ i → i < N → S i ≤ L i) {i : Int} (i0 : 0 ≤ i) (i1 : i < N) (i2 : L i ≠ S i) : ∃ r, 0 ≤ r ∧ r < R ∧ L (o r) ≠ S (o r) ∧ S (o r) = F r S ∧ F r L = F r S := by
  apply Classical.byContradiction
  intro no
  have hm : ∀ j, 0 ≤ j → j < N → S j ≤ (if L j = S j then S j else S j + 1) := fun j _ _ => by split <;> omega
  have hr : gf_r N K (fun j => if L j = S j then S j else S j + 1) := by
    intro j j0 j1
    have a := l2 j j0 j1
    have b := l1 j j0 j1
    have c := s1 j j0 j1
    show 0 ≤ (if L j = S j then S j else S j + 1) ∧ (if L j = S j then S j else S j + 1) ≤ K
    split <;> omega
  have hc : gf_cl R o F (fun j => if L j = S j then S j else S j + 1) := by
    intro r r0 r1
    have h1 := s2 r r0 r1
    have h2 := hs.2.2 r S _ r0 r1 s1 hr hm
    show (if L (o r) = S (o r) then S (o r) else S (o r) + 1) ≤ _
    by_cases c : L (o r) = S (o r)
    · rw [if_pos c]
      omega
    · rw [if_neg c]
      by_cases c2 : S (o r) = F r S
      · have h3 := hs.2.2 r S L r0 r1 s1 l1 l2
        have h4 : F r L ≠ F r S := fun e => no ⟨r, r0, r1, c, c2, e⟩
        have h5 := ht r S L r0 r1 s1 l1 l2 (by omega)
        omega
      · omega
  have h := s3 _ hr hc i i0 i1
  have h2 : (if L i = S i then S i else S i + 1) ≤ S i := h
  rw [if_neg i2] at h2
  omega
/-- a pass over the rules, that began at L1 -/
def gf_ps (N R K : Int) (o : Int → Int) (F : Int → (Int → Int) → Int) (S L1 L : Int → Int) (r : Int) : Prop := gf_r N K L ∧ gf_so N R K o F L ∧ (∀ i, 0 ≤ i → i < N → L i ≤ L1 i) ∧ ∀ q, 0 ≤ q → q < r → q < R → S (o q) = F q S → F q L1 = F q S → L (o q) = S (o q)
theorem gf_ps_0 {N R K : Int} {o : Int → Int} {F : Int → (Int → Int) → Int} {S L : Int → Int} (h1 : gf_r N K L) (h2 : gf_so N R K o F L) : gf_ps N R K o F S L L 0 := ⟨h1, h2, fun _ _ _ => Int.le_refl _, fun q a b => by omega⟩
theorem gf_ps_s {N R K : Int} {o : Int → Int} {F : Int → (Int → Int) → Int} (hs : gf_sys N R K o F) {S L1 L : Int → Int} (s1 : gf_r N K S) (s2 : gf_cl R o F S) (l1 : gf_r N K L1) {r : Int} (r0 : 0 ≤ r) (r1 : r < R) (h : gf_ps N R K o F S L1 L r) : gf_ps N R K o F S L1 (gm_upd L (o r) (min (L (o r)) (F r L))) (r + 1) := by
  obtain ⟨a1, a2, a3, a4⟩ := h
  obtain ⟨b1, b2, b3⟩ := gf_add hs a1 a2 r0 r1
  obtain ⟨p1, p2⟩ := hs.1 r r0 r1
  refine ⟨b1, b2, fun i i0 i1 => Int.le_trans (b3 i) (a3 i i0 i1), fun q q0 q1 q2 c1 c2 => ?_⟩
  have lo : ∀ i, 0 ≤ i → i < N → S i ≤ gm_upd L (o r) (min (L (o r)) (F r L)) i := b2 S s1 s2
  obtain ⟨o1, o2⟩ := hs.1 q q0 q2
  have lo1 := lo (o q) o1 o2
  by_cases e : q = r
  · subst e
    have f1 := hs.2.2 q L L1 q0 q2 a1 l1 a3
    have e : gm_upd L (o q) (min (L (o q)) (F q L)) (o q) = min (L (o q)) (F q L) := if_pos rfl
    omega
  · have f1 := a4 q q0 (by omega) q2 c1 c2
    have f2 := b3 (o q)
    omega
theorem gf_ps_e {N R K : Int} {o : Int → Int} {F : Int → (Int → Int) → Int} (hs : gf_sys N R K o F) (ht : gf_tri N R K F) {S L1 L : Int → Int} (s1 : gf_r N K S) (s2 : gf_cl R o F S) (s3 : gf_so N R K o F S) (l1 : gf_r N K L1) (l2 : gf_so N R K o F L1) (h : gf_ps N R K o F S L1 L R) : (∀ i, 0 ≤ i → i < N → L1 i = S i) ∨ gct (fun i => decide (L1 i = S i)) N.toNat < gct (fun i => decide (L i = S i)) N.toNat := by
  obtain ⟨a1, a2, a3, a4⟩ := h
  by_cases c : ∀ i, 0 ≤ i → i < N → L1 i = S i
  · exact Or.inl c
  · right
    have ⟨i, hi⟩ := Classical.not_forall.mp c
    have i0 : 0 ≤ i := Classical.byContradiction (fun z => hi (fun a => absurd a z))
    have i1 : i < N := Classical.byContradiction (fun z => hi (fun _ a => absurd a z))
    have i2 : L1 i ≠ S i := fun z => hi (fun _ _ => z)
    obtain ⟨r, r0, r1, e1, e2, e3⟩ := gf_step hs ht s1 s2 s3 l1 (l2 S s1 s2) i0 i1 i2
    obtain ⟨p1, p2⟩ := hs.1 r r0 r1
    refine gct_lt N.toNat (fun j j0 j1 z => decide_eq_true ?_) (o r) p1 (by omega) (decide_eq_true (a4 r r0 r1 r1 e2 e3)) (decide_eq_false e1)
    have z1 := of_decide_eq_true z
    have z2 := a3 j j0 (by omega)
    have z3 := a2 S s1 s2 j j0 (by omega)
    omega

