/-- the part d of the rule r makes the letters from p up to q, where Mk tells what names make -/
def gt_pm (G : gm_G) (z : Int) (t : Int → Int) (Mk : Int → Int → Int → Prop) (r d p q : Int) : Prop := (gm_n G r d = -1 ∧ q = p + 1 ∧ p < z ∧ gb (gm_p G r d) (t p)) ∨ (gm_n G r d ≠ -1 ∧ Mk (gm_n G r d) p q)
def gt_rw (PM : Int → Int → Int → Prop) : Nat → Int → Int → Prop
  | 0, i, j => i = j
  | k + 1, i, j => ∃ p, gt_rw PM k i p ∧ PM k p j
def gt_row (G : gm_G) (z : Int) (t : Int → Int) (Mk : Int → Int → Int → Prop) (r d i j : Int) : Prop := gt_rw (gt_pm G z t Mk r) d.toNat i j
def gt_cl (G : gm_G) (z : Int) (t : Int → Int) (Z : Int → Int → Int → Prop) : Prop := ∀ r i j, 0 ≤ r → r < gm_R G → 0 ≤ i → i ≤ z → gt_row G z t Z r (gm_s G r) i j → Z (gm_o G r) i j
/-- the name n makes the letters from i up to j -/
def gt_M (G : gm_G) (z : Int) (t : Int → Int) (n i j : Int) : Prop := ∀ Z, gt_cl G z t Z → Z n i j
theorem gt_rw_mono {P Q : Int → Int → Int → Prop} : ∀ (k : Nat) (i j : Int), (∀ (d p q : Int), 0 ≤ d → d < k → P d p q → Q d p q) → gt_rw P k i j → gt_rw Q k i j
  | 0, _, _, _, h => h
  | k + 1, i, j, hm, ⟨p, h1, h2⟩ => ⟨p, gt_rw_mono k i p (fun d p q d0 d1 => hm d p q d0 (by omega)) h1, hm k p j (by omega) (by omega) h2⟩
theorem gt_pm_mono {G : gm_G} {z : Int} {t : Int → Int} {A B : Int → Int → Int → Prop} {r d p q : Int} (h : gm_n G r d ≠ -1 → A (gm_n G r d) p q → B (gm_n G r d) p q) (h1 : gt_pm G z t A r d p q) : gt_pm G z t B r d p q :=
  h1.imp id (fun w => ⟨w.1, h w.1 w.2⟩)
theorem gt_row_mono {G : gm_G} {z : Int} {t : Int → Int} {A B : Int → Int → Int → Prop} {r d i j : Int} (h : ∀ e p q, 0 ≤ e → e < d → gm_n G r e ≠ -1 → A (gm_n G r e) p q → B (gm_n G r e) p q) (h1 : gt_row G z t A r d i j) : gt_row G z t B r d i j :=
  gt_rw_mono _ _ _ (fun e p q e0 e1 => gt_pm_mono (h e p q e0 (by omega))) h1
theorem gt_row_0 {G : gm_G} {z : Int} {t : Int → Int} {A : Int → Int → Int → Prop} {r i j : Int} : gt_row G z t A r 0 i j ↔ i = j := Iff.rfl
theorem gt_row_s {G : gm_G} {z : Int} {t : Int → Int} {A : Int → Int → Int → Prop} {r d i j : Int} (d0 : 0 ≤ d) : gt_row G z t A r (d + 1) i j ↔ ∃ p, gt_row G z t A r d i p ∧ gt_pm G z t A r d p j := by
  unfold gt_row
  have e : (d + 1).toNat = d.toNat + 1 := by omega
  have e2 : ((d.toNat : Nat) : Int) = d := by omega
  rw [e]
  show (∃ p, gt_rw _ d.toNat i p ∧ gt_pm G z t A r (d.toNat : Nat) p j) ↔ _
  rw [e2]
theorem gt_M_cl {G : gm_G} {z : Int} {t : Int → Int} : gt_cl G z t (gt_M G z t) := fun r i j r0 r1 i0 i1 h Z hZ =>
  hZ r i j r0 r1 i0 i1 (gt_row_mono (fun _ _ _ _ _ _ w => w Z hZ) h)
/-- rows go from the left to the right, within the text -/
theorem gt_row_le {G : gm_G} {z : Int} {t : Int → Int} {A : Int → Int → Int → Prop} {r i : Int} (i1 : i ≤ z) (h : ∀ n p q, A n p q → p ≤ q ∧ q ≤ z) : ∀ (k : Nat) (j : Int), gt_rw (gt_pm G z t A r) k i j → i ≤ j ∧ j ≤ z
  | 0, j, e => by
    have : i = j := e
    omega
  | k + 1, j, ⟨p, h1, h2⟩ => by
    have h3 := gt_row_le i1 h k p h1
    rcases h2 with ⟨_, e1, e2, _⟩ | ⟨_, h2⟩
    · omega
    · have := h _ _ _ h2
      omega
theorem gt_row_rng {G : gm_G} {z : Int} {t : Int → Int} {A : Int → Int → Int → Prop} {r d i j : Int} (i1 : i ≤ z) (h : ∀ n p q, A n p q → p ≤ q ∧ q ≤ z) (h1 : gt_row G z t A r d i j) : i ≤ j ∧ j ≤ z := gt_row_le i1 h _ _ h1
theorem gt_M_rng {G : gm_G} (hG : gm_ok G) {z : Int} {t : Int → Int} {n i j : Int} (h : gt_M G z t n i j) : 0 ≤ n ∧ n < gm_N G ∧ 0 ≤ i ∧ i ≤ j ∧ j ≤ z := by
  refine h (fun n i j => 0 ≤ n ∧ n < gm_N G ∧ 0 ≤ i ∧ i ≤ j ∧ j ≤ z) (fun r i j r0 r1 i0 i1 w => ?_)
  obtain ⟨p1, p2, _⟩ := hG.2.2.2.2.1 r r0 r1
  have := gt_row_rng i1 (fun n p q y => ⟨y.2.2.2.1, y.2.2.2.2⟩) w
  exact ⟨p1, p2, i0, this.1, this.2⟩
theorem gt_row_M {G : gm_G} (hG : gm_ok G) {z : Int} {t : Int → Int} {r d i j : Int} (i1 : i ≤ z) (h : gt_row G z t (gt_M G z t) r d i j) : i ≤ j ∧ j ≤ z :=
  gt_row_rng i1 (fun n p q y => by have := gt_M_rng hG y; omega) h
/-- a table that is sound and closed tells what names make -/
theorem gt_M_eq {G : gm_G} {z : Int} {t : Int → Int} {A : Int → Int → Int → Prop} (h1 : ∀ n i j, A n i j → gt_M G z t n i j) (h2 : gt_cl G z t A) {n i j : Int} : A n i j ↔ gt_M G z t n i j := ⟨h1 n i j, fun w => w A h2⟩
/-- what names make of letters does not ask for those behind -/
theorem gt_M_cut {G : gm_G} (hG : gm_ok G) {z z2 k : Int} {t t2 : Int → Int} (k1 : k ≤ z) (k2 : k ≤ z2) (ht : ∀ p, 0 ≤ p → p < k → t p = t2 p) {n i j : Int} (hj : j ≤ k) (h : gt_M G z t n i j) : gt_M G z2 t2 n i j := by
  have key : 0 ≤ i ∧ i ≤ j ∧ j ≤ z ∧ (j ≤ k → gt_M G z2 t2 n i j) := by
    refine h (fun n i j => 0 ≤ i ∧ i ≤ j ∧ j ≤ z ∧ (j ≤ k → gt_M G z2 t2 n i j)) (fun r i j r0 r1 i0 i1 w => ?_)
    have rg := gt_row_rng i1 (fun n p q y => ⟨y.2.1, y.2.2.1⟩) w
    refine ⟨i0, rg.1, rg.2, fun jk => gt_M_cl r i j r0 r1 i0 (by omega) ?_⟩
    have st : ∀ (d : Nat) (q : Int), q ≤ k → gt_rw (gt_pm G z t (fun n i j => 0 ≤ i ∧ i ≤ j ∧ j ≤ z ∧ (j ≤ k → gt_M G z2 t2 n i j)) r) d i q → gt_rw (gt_pm G z2 t2 (gt_M G z2 t2) r) d i q := by
      intro d
      induction d with
      | zero => exact fun q _ e => e
      | succ d ih =>
        rintro q qk ⟨p, w1, w2⟩
        have rp := gt_row_le i1 (fun n p q y => ⟨y.2.1, y.2.2.1⟩) d p w1
        rcases w2 with ⟨a1, a2, a3, a4⟩ | ⟨a1, a2⟩
        · refine ⟨p, ih p (by omega) w1, Or.inl ⟨a1, a2, by omega, ?_⟩⟩
          rw [← ht p (by omega) (by omega)]
          exact a4
        · exact ⟨p, ih p (by omega) w1, Or.inr ⟨a1, a2.2.2.2 qk⟩⟩
    exact st _ _ jk w
  exact key.2.2.2 hj
theorem gt_M_cut2 {G : gm_G} (hG : gm_ok G) {z z2 k : Int} {t t2 : Int → Int} (k1 : k ≤ z) (k2 : k ≤ z2) (ht : ∀ p, 0 ≤ p → p < k → t p = t2 p) {n i j : Int} (hj : j ≤ k) : gt_M G z t n i j ↔ gt_M G z2 t2 n i j :=
  ⟨gt_M_cut hG k1 k2 ht hj, gt_M_cut hG k2 k1 (fun p a b => (ht p a b).symm) hj⟩
/-- names by steps of rules B from name 0 (where st), right behind letters that are made -/
def gt_Scl (G : gm_G) (z : Int) (t : Int → Int) (B : Int → Prop) (st : Prop) (Z : Int → Int → Prop) : Prop := (st → Z 0 0) ∧ ∀ r d i j, 0 ≤ r → r < gm_R G → 0 ≤ d → d < gm_s G r → B r → gm_n G r d ≠ -1 → 0 ≤ i → i ≤ z → Z (gm_o G r) i → gt_row G z t (gt_M G z t) r d i j → Z (gm_n G r d) j
def gt_S (G : gm_G) (z : Int) (t : Int → Int) (B : Int → Prop) (st : Prop) (n i : Int) : Prop := ∀ Z, gt_Scl G z t B st Z → Z n i
theorem gt_S_cl {G : gm_G} {z : Int} {t : Int → Int} {B : Int → Prop} {st : Prop} : gt_Scl G z t B st (gt_S G z t B st) :=
  ⟨fun h Z hZ => hZ.1 h, fun r d i j r0 r1 d0 d1 b n i0 i1 h w Z hZ => hZ.2 r d i j r0 r1 d0 d1 b n i0 i1 (h Z hZ) w⟩
theorem gt_S_rng {G : gm_G} (hG : gm_ok G) {z : Int} {t : Int → Int} {B : Int → Prop} {st : Prop} (hz : 0 ≤ z) {n i : Int} (h : gt_S G z t B st n i) : 0 ≤ n ∧ n < gm_N G ∧ 0 ≤ i ∧ i ≤ z := by
  have hN := hG.1
  refine h (fun n i => 0 ≤ n ∧ n < gm_N G ∧ 0 ≤ i ∧ i ≤ z) ⟨fun _ => by omega, fun r d i j r0 r1 d0 d1 _ n i0 i1 w1 w2 => ?_⟩
  have w := gm_n_rng hG r0 r1 d0 d1
  have y := gt_row_M hG i1 w2
  omega
/-- rows and names that stand do not ask for the letters behind -/
theorem gt_row_cut {G : gm_G} (hG : gm_ok G) {z z2 k : Int} {t t2 : Int → Int} (k1 : k ≤ z) (k2 : k ≤ z2) (ht : ∀ p, 0 ≤ p → p < k → t p = t2 p) {r d i j : Int} (i0 : 0 ≤ i) (i1 : i ≤ z) (hj : j ≤ k) (h : gt_row G z t (gt_M G z t) r d i j) : gt_row G z2 t2 (gt_M G z2 t2) r d i j := by
  have st : ∀ (d : Nat) (q : Int), q ≤ k → gt_rw (gt_pm G z t (gt_M G z t) r) d i q → gt_rw (gt_pm G z2 t2 (gt_M G z2 t2) r) d i q := by
    intro d
    induction d with
    | zero => exact fun q _ e => e
    | succ d ih =>
      rintro q qk ⟨p, w1, w2⟩
      have rp := gt_row_le i1 (fun n p q y => by have := gt_M_rng hG y; omega) d p w1
      rcases w2 with ⟨a1, a2, a3, a4⟩ | ⟨a1, a2⟩
      · refine ⟨p, ih p (by omega) w1, Or.inl ⟨a1, a2, by omega, ?_⟩⟩
        rw [← ht p (by omega) (by omega)]
        exact a4
      · have := gt_M_rng hG a2
        exact ⟨p, ih p (by omega) w1, Or.inr ⟨a1, gt_M_cut hG k1 k2 ht qk a2⟩⟩
  exact st _ _ hj h
theorem gt_row_cut2 {G : gm_G} (hG : gm_ok G) {z z2 k : Int} {t t2 : Int → Int} (k1 : k ≤ z) (k2 : k ≤ z2) (ht : ∀ p, 0 ≤ p → p < k → t p = t2 p) {r d i j : Int} (i0 : 0 ≤ i) (i1 : i ≤ k) (hj : j ≤ k) : gt_row G z t (gt_M G z t) r d i j ↔ gt_row G z2 t2 (gt_M G z2 t2) r d i j :=
  ⟨gt_row_cut hG k1 k2 ht i0 (by omega) hj, gt_row_cut hG k2 k1 (fun p a b => (ht p a b).symm) i0 (by omega) hj⟩

