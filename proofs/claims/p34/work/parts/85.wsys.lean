/-! WANTED LETTERS: the system of a place -/
theorem gmn_mono {I : Type} {In : I → Prop} {f g : I → Int} {K : Int} (hK : 0 ≤ K) (h : ∀ a, In a → 0 ≤ f a ∧ f a ≤ g a) : gmn (fun w => ∃ a, In a ∧ w = f a) K ≤ gmn (fun w => ∃ a, In a ∧ w = g a) K := by
  obtain ⟨a1, a2, a3, a4⟩ := gmn_sp (A := fun w => ∃ a, In a ∧ w = f a) hK
  obtain ⟨b1, b2, b3, b4⟩ := gmn_sp (A := fun w => ∃ a, In a ∧ w = g a) hK
  rcases b3 with e | ⟨a, e1, e2⟩
  · omega
  · have := h a e1
    have := a4 (f a) this.1 ⟨a, e1, rfl⟩
    omega
theorem gmn_tri {I : Type} {In : I → Prop} {f g q : I → Int} {K : Int} (hK : 0 ≤ K) (h : ∀ a, In a → 0 ≤ f a ∧ f a ≤ g a ∧ f a ≤ q a ∧ (f a < g a → f a + 1 ≤ q a)) (hl : gmn (fun w => ∃ a, In a ∧ w = f a) K < gmn (fun w => ∃ a, In a ∧ w = g a) K) : gmn (fun w => ∃ a, In a ∧ w = f a) K + 1 ≤ gmn (fun w => ∃ a, In a ∧ w = q a) K := by
  obtain ⟨a1, a2, a3, a4⟩ := gmn_sp (A := fun w => ∃ a, In a ∧ w = f a) hK
  obtain ⟨b1, b2, b3, b4⟩ := gmn_sp (A := fun w => ∃ a, In a ∧ w = g a) hK
  obtain ⟨c1, c2, c3, c4⟩ := gmn_sp (A := fun w => ∃ a, In a ∧ w = q a) hK
  rcases c3 with e | ⟨a, e1, e2⟩
  · omega
  · obtain ⟨h1, h2, h3, h4⟩ := h a e1
    have k1 := a4 (f a) h1 ⟨a, e1, rfl⟩
    have k2 := b4 (g a) (by omega) ⟨a, e1, rfl⟩
    by_cases c : f a < g a
    · have := h4 c
      omega
    · omega
/-- finite numbers of a system do not lie far apart -/
def gf_bnd (B C : Int) : Nat → Int
  | 0 => B
  | k + 1 => gf_bnd B C k + C
theorem gf_bd1 {N R K : Int} {o : Int → Int} {F : Int → (Int → Int) → Int} (hs : gf_sys N R K o F) (ht : gf_tri N R K F) {S : Int → Int} (s1 : gf_r N K S) (s2 : gf_cl R o F S) (s3 : gf_so N R K o F S) {B C : Int} (hB : 0 ≤ B) (hC : 0 ≤ C) (hF : ∀ r, 0 ≤ r → r < R → F r (fun j => if S j ≤ B then S j else K) < K → F r (fun j => if S j ≤ B then S j else K) ≤ B + C) {i : Int} (i0 : 0 ≤ i) (i1 : i < N) (i2 : ¬ (S i ≤ B ∨ S i = K)) : gct (fun i => decide (S i ≤ B ∨ S i = K)) N.toNat + 1 ≤ gct (fun i => decide (S i ≤ B + C ∨ S i = K)) N.toNat := by
  have si := s1 i i0 i1
  have lr : gf_r N K (fun j => if S j ≤ B then S j else K) := fun j j0 j1 => by
    have := s1 j j0 j1
    show 0 ≤ (if S j ≤ B then S j else K) ∧ (if S j ≤ B then S j else K) ≤ K
    split <;> omega
  have ls : ∀ j, 0 ≤ j → j < N → S j ≤ (if S j ≤ B then S j else K) := fun j j0 j1 => by
    have := s1 j j0 j1
    split <;> omega
  obtain ⟨r, r0, r1, r2, r3, r4⟩ := gf_step hs ht s1 s2 s3 lr ls i0 i1 (by
    show (if S i ≤ B then S i else K) ≠ S i
    rw [if_neg (fun z => i2 (Or.inl z))]
    exact fun z => i2 (Or.inr z.symm))
  obtain ⟨p1, p2⟩ := hs.1 r r0 r1
  have r5 : ¬ (S (o r) ≤ B) := fun z => r2 (if_pos z)
  have r6 : S (o r) ≠ K := fun z => r2 ((if_neg r5).trans z.symm)
  have q1 := s1 _ p1 p2
  have r7 := hF r r0 r1 (by rw [r4, ← r3]; omega)
  rw [r4, ← r3] at r7
  exact gct_lt (p := fun i => decide (S i ≤ B ∨ S i = K)) (q := fun i => decide (S i ≤ B + C ∨ S i = K)) N.toNat (fun j _ _ z => decide_eq_true (by
    have := of_decide_eq_true z
    omega)) (o r) p1 (by omega) (decide_eq_true (Or.inl r7)) (decide_eq_false (fun z => z.elim r5 r6))
theorem gf_bd {N R K : Int} {o : Int → Int} {F : Int → (Int → Int) → Int} (hs : gf_sys N R K o F) (ht : gf_tri N R K F) {S : Int → Int} (s1 : gf_r N K S) (s2 : gf_cl R o F S) (s3 : gf_so N R K o F S) {B C : Int} (hB : 0 ≤ B) (hC : 0 ≤ C) (hF : ∀ B', B ≤ B' → ∀ r, 0 ≤ r → r < R → F r (fun j => if S j ≤ B' then S j else K) < K → F r (fun j => if S j ≤ B' then S j else K) ≤ B' + C) {i : Int} (i0 : 0 ≤ i) (i1 : i < N) (i2 : S i < K) : S i ≤ gf_bnd B C N.toNat := by
  apply Classical.byContradiction
  intro no
  have up : ∀ n : Nat, B ≤ gf_bnd B C n := by
    intro n
    induction n with
    | zero => exact Int.le_refl _
    | succ n ih =>
      show B ≤ gf_bnd B C n + C
      omega
  have le : ∀ n k : Nat, gf_bnd B C n ≤ gf_bnd B C (n + k) := by
    intro n k
    induction k with
    | zero => exact Int.le_refl _
    | succ k ih =>
      show gf_bnd B C n ≤ gf_bnd B C (n + k) + C
      omega
  have st : ∀ n : Nat, n ≤ N.toNat → n ≤ gct (fun i => decide (S i ≤ gf_bnd B C n ∨ S i = K)) N.toNat := by
    intro n
    induction n with
    | zero => exact fun _ => Nat.zero_le _
    | succ n ih =>
      intro hn
      have h1 := ih (by omega)
      have h2 := le n (N.toNat - n)
      have e : n + (N.toNat - n) = N.toNat := by omega
      rw [e] at h2
      have h3 := gf_bd1 hs ht s1 s2 s3 (B := gf_bnd B C n) (by have := up n; omega) hC (hF _ (up n)) i0 i1 (by omega)
      show n + 1 ≤ gct (fun i => decide (S i ≤ gf_bnd B C n + C ∨ S i = K)) N.toNat
      omega
  have := of_decide_eq_true (gct_full (p := fun i => decide (S i ≤ gf_bnd B C N.toNat ∨ S i = K)) N.toNat (st _ (Nat.le_refl _)) i i0 (by omega))
  omega
theorem gf_bnd_le {B C : Int} (hC : 0 ≤ C) : ∀ n k : Nat, n ≤ k → gf_bnd B C n ≤ gf_bnd B C k := by
  intro n k
  induction k with
  | zero =>
    intro h
    have : n = 0 := by omega
    rw [this]
    exact Int.le_refl _
  | succ k ih =>
    intro h
    by_cases e : n = k + 1
    · rw [e]
      exact Int.le_refl _
    · have := ih (by omega)
      show gf_bnd B C n ≤ gf_bnd B C k + C
      omega
/-- the places of an alternative: the part d goes on from e, or (e = k) is the last within the letters -/
def gw_In (G : gm_G) (z : Int) (t : Int → Int) (k r i : Int) (a : Int × Int) : Prop := 0 ≤ a.1 ∧ a.1 < gm_s G r ∧ i ≤ a.2 ∧ a.2 ≤ k ∧ (a.2 < k → gm_n G r a.1 ≠ -1 ∧ gt_row G z t (gt_M G z t) r a.1 i a.2) ∧ (a.2 = k → gt_row G z t (gt_M G z t) r (a.1 + 1) i k)
def gw_val (G : gm_G) (S : Int → Int) (k : Int) (V : Int → Int → Int) (r : Int) (a : Int × Int) : Int := (if a.2 < k then V (gm_n G r a.1) a.2 else 0) + gm_lr G S r (a.1 + 1)
theorem gw_A_In {G : gm_G} {z : Int} {t : Int → Int} {S : Int → Int} {k : Int} {V : Int → Int → Int} {r i : Int} (ik : i ≤ k) (w : Int) : gw_A G z t S k V r i (gm_s G r) w ↔ ∃ a, gw_In G z t k r i a ∧ w = gw_val G S k V r a := by
  constructor
  · rintro ⟨d, d0, d1, ⟨e, e0, e1, h1, h2, h3⟩ | ⟨h1, h2⟩⟩
    · refine ⟨(d, e), ⟨d0, d1, e0, by show e ≤ k; omega, fun _ => ⟨h1, h2⟩, fun y => ?_⟩, ?_⟩
      · have : e = k := y
        omega
      · unfold gw_val
        rw [if_pos e1]
        exact h3
    · refine ⟨(d, k), ⟨d0, d1, ik, Int.le_refl _, fun y => ?_, fun _ => h1⟩, ?_⟩
      · have : k < k := y
        omega
      · unfold gw_val
        rw [if_neg (Int.lt_irrefl _)]
        show w = 0 + gm_lr G S r (d + 1)
        omega
  · rintro ⟨⟨d, e⟩, ⟨h1, h2, h3, h4, h5, h6⟩, h7⟩
    unfold gw_val at h7
    by_cases c : e < k
    · rw [if_pos c] at h7
      exact ⟨d, h1, h2, Or.inl ⟨e, h3, c, (h5 c).1, (h5 c).2, h7⟩⟩
    · rw [if_neg c] at h7
      have h4' : e ≤ k := h4
      have ek : e = k := by omega
      refine ⟨d, h1, h2, Or.inr ⟨h6 ek, ?_⟩⟩
      have h8 : w = 0 + gm_lr G S r (d + 1) := h7
      omega
theorem gmn_cg {A B : Int → Prop} {K : Int} (h : ∀ w, A w ↔ B w) : gmn A K = gmn B K := by
  have : A = B := funext (fun w => propext (h w))
  rw [this]
/-- the system of the place i -/
noncomputable def gw_F (G : gm_G) (z : Int) (t : Int → Int) (S : Int → Int) (k i : Int) (P : Int → Int → Int) (r : Int) (L : Int → Int) : Int := gmn (gw_A G z t S k (fun n e => if e = i then L n else P n e) r i (gm_s G r)) 16777216
theorem gw_F_eq {G : gm_G} {z : Int} {t : Int → Int} {S : Int → Int} {k i : Int} {P : Int → Int → Int} {r : Int} {L : Int → Int} (ik : i ≤ k) : gw_F G z t S k i P r L = gmn (fun w => ∃ a, gw_In G z t k r i a ∧ w = gw_val G S k (fun n e => if e = i then L n else P n e) r a) 16777216 := gmn_cg (gw_A_In ik)
theorem gw_val_b {G : gm_G} (hG : gm_ok G) {z : Int} {t : Int → Int} {S : Int → Int} (hS : gm_Lr G S) {k i : Int} {V : Int → Int → Int} {r : Int} (r0 : 0 ≤ r) (r1 : r < gm_R G) (hV : ∀ n e, 0 ≤ n → n < gm_N G → i ≤ e → e < k → 0 ≤ V n e) {a : Int × Int} (ha : gw_In G z t k r i a) : 0 ≤ gw_val G S k V r a := by
  obtain ⟨h1, h2, h3, h4, h5, h6⟩ := ha
  have lr := gm_lr_0 hG hS r0 r1 (a := a.1 + 1) (by omega)
  unfold gw_val
  by_cases c : a.2 < k
  · have nn := gm_n_rng hG r0 r1 h1 h2
    have := (h5 c).1
    have := hV (gm_n G r a.1) a.2 (by omega) (by omega) h3 c
    rw [if_pos c]
    omega
  · rw [if_neg c]
    omega
theorem gw_sys {G : gm_G} (hG : gm_ok G) {z : Int} {t : Int → Int} {S : Int → Int} (hS : gm_Lr G S) {k i : Int} (ik : i < k) {P : Int → Int → Int} (hP : ∀ n e, 0 ≤ n → n < gm_N G → i < e → e < k → 0 ≤ P n e ∧ P n e ≤ 16777216) : gf_sys (gm_N G) (gm_R G) 16777216 (gm_o G) (gw_F G z t S k i P) ∧ gf_tri (gm_N G) (gm_R G) 16777216 (gw_F G z t S k i P) := by
  have vn : ∀ L, gf_r (gm_N G) 16777216 L → ∀ n e, 0 ≤ n → n < gm_N G → i ≤ e → e < k → 0 ≤ (fun n e => if e = i then L n else P n e : Int → Int → Int) n e := fun L hL n e n0 n1 e0 e1 => by
    show 0 ≤ (if e = i then L n else P n e)
    by_cases c : e = i
    · rw [if_pos c]
      exact (hL n n0 n1).1
    · rw [if_neg c]
      exact (hP n e n0 n1 (by omega) e1).1
  refine ⟨⟨fun r r0 r1 => ?_, fun r L r0 r1 _ => ?_, fun r L Z r0 r1 l1 z1 le => ?_⟩, fun r S' L r0 r1 s1 l1 le hl => ?_⟩
  · obtain ⟨p1, p2, _⟩ := hG.2.2.2.2.1 r r0 r1
    exact ⟨p1, p2⟩
  · obtain ⟨h1, h2, _⟩ := gmn_sp (A := gw_A G z t S k (fun n e => if e = i then L n else P n e) r i (gm_s G r)) (K := 16777216) (by decide)
    exact ⟨h1, h2⟩
  · rw [gw_F_eq (by omega), gw_F_eq (by omega)]
    refine gmn_mono (by decide) (fun a ha => ⟨gw_val_b hG hS r0 r1 (vn L l1) ha, ?_⟩)
    obtain ⟨h1, h2, h3, h4, h5, h6⟩ := ha
    unfold gw_val
    by_cases c : a.2 < k
    · have nn := gm_n_rng hG r0 r1 h1 h2
      have := (h5 c).1
      have := le (gm_n G r a.1) (by omega) (by omega)
      rw [if_pos c, if_pos c]
      dsimp only
      by_cases q : a.2 = i
      · rw [if_pos q, if_pos q]
        omega
      · rw [if_neg q, if_neg q]
        exact Int.le_refl _
    · rw [if_neg c, if_neg c]
      exact Int.le_refl _
  · rw [gw_F_eq (by omega), gw_F_eq (by omega)] at hl
    rw [gw_F_eq (by omega), gw_F_eq (by omega)]
    refine gmn_tri (by decide) (fun a ha => ?_) hl
    have nb := gw_val_b hG hS r0 r1 (vn S' s1) ha
    obtain ⟨h1, h2, h3, h4, h5, h6⟩ := ha
    refine ⟨nb, ?_⟩
    unfold gw_val
    by_cases c : a.2 < k
    · have nn := gm_n_rng hG r0 r1 h1 h2
      have := (h5 c).1
      have := le (gm_n G r a.1) (by omega) (by omega)
      rw [if_pos c, if_pos c, if_pos c]
      dsimp only
      by_cases q : a.2 = i
      · rw [if_pos q, if_pos q, if_pos q]
        refine ⟨by omega, ?_, fun _ => ?_⟩
        · split <;> omega
        · rw [if_neg (by omega)]
          omega
      · rw [if_neg q, if_neg q, if_neg q]
        exact ⟨Int.le_refl _, Int.le_refl _, fun y => by omega⟩
    · rw [if_neg c, if_neg c, if_neg c]
      exact ⟨Int.le_refl _, Int.le_refl _, fun y => by omega⟩

