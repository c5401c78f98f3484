/-! TABLES OF TRUTH VALUES, closed in rounds: steps from premises P to a conclusion y -/
def gq_cl (Ra : (Int → Prop) → Int → Prop) (A : Int → Int) : Prop := ∀ P y, Ra P y → (∀ x, P x → A x ≠ 0) → A y ≠ 0
def gq_wf (T : Nat) (Ra : (Int → Prop) → Int → Prop) : Prop := ∀ P y, Ra P y → (∀ x, P x → 0 ≤ x ∧ x < T) ∧ 0 ≤ y ∧ y < T
/-- within a round that began at A1: A holds what the steps R give -/
def gq_ps (T : Nat) (Ra R : (Int → Prop) → Int → Prop) (X : Int → Prop) (A1 A : Int → Int) : Prop := (∀ n : Int, 0 ≤ n → n < T → A n = 0 ∨ A n = 1) ∧ (∀ n : Int, 0 ≤ n → n < T → A1 n ≠ 0 → A n ≠ 0) ∧ (∀ n : Int, 0 ≤ n → n < T → A n ≠ 0 → X n) ∧ (∀ P y, R P y → (∀ x, P x → A1 x ≠ 0) → A y ≠ 0) ∧ (gq_cl Ra A1 → ∀ n : Int, 0 ≤ n → n < T → A n ≠ 0 → A1 n ≠ 0)
theorem gq_init {T : Nat} {Ra R : (Int → Prop) → Int → Prop} {X : Int → Prop} {A : Int → Int} (h1 : ∀ n : Int, 0 ≤ n → n < T → A n = 0 ∨ A n = 1) (h2 : ∀ n : Int, 0 ≤ n → n < T → A n ≠ 0 → X n) (h3 : ∀ P y, ¬ R P y) : gq_ps T Ra R X A A :=
  ⟨h1, fun _ _ _ z => z, h2, fun P y z => absurd z (h3 P y), fun _ _ _ _ z => z⟩
theorem gq_skip {T : Nat} {Ra R R' : (Int → Prop) → Int → Prop} {X : Int → Prop} {A1 A : Int → Int} (hw : gq_wf T R') (h : gq_ps T Ra R X A1 A) (h2 : ∀ P y, R' P y → R P y ∨ ¬ (∀ x, P x → A x ≠ 0)) : gq_ps T Ra R' X A1 A := by
  refine ⟨h.1, h.2.1, h.2.2.1, fun P y z w => ?_, h.2.2.2.2⟩
  rcases h2 P y z with q | q
  · exact h.2.2.2.1 P y q w
  · exact absurd (fun x hx => h.2.1 x ((hw P y z).1 x hx).1 ((hw P y z).1 x hx).2 (w x hx)) q
theorem gq_set {T : Nat} {Ra R R' : (Int → Prop) → Int → Prop} {X : Int → Prop} {A1 A : Int → Int} {P0 : Int → Prop} {y0 w : Int} (hf : gq_wf T Ra) (h0 : Ra P0 y0) (h : gq_ps T Ra R X A1 A) (hX : (∀ x, P0 x → X x) → X y0) (hw0 : w = 0 ∨ w = 1) (hw : w ≠ 0 ↔ (A y0 ≠ 0 ∨ ∀ x, P0 x → A x ≠ 0)) (hR : ∀ P y, R' P y → R P y ∨ (y = y0 ∧ ∀ x, P0 x → P x)) : gq_ps T Ra R' X A1 (gm_upd A y0 w) := by
  obtain ⟨a1, a2, a3, a4, a5⟩ := h
  obtain ⟨f1, f2, f3⟩ := hf P0 y0 h0
  have up : ∀ n, A n ≠ 0 → gm_upd A y0 w n ≠ 0 := fun n z => by
    unfold gm_upd
    split
    · next e =>
      subst e
      exact hw.mpr (Or.inl z)
    · exact z
  refine ⟨fun n n0 n1 => ?_, fun n n0 n1 z => up n (a2 n n0 n1 z), fun n n0 n1 z => ?_, fun P y z q => ?_, fun z n n0 n1 q => ?_⟩
  · unfold gm_upd
    split
    · exact hw0
    · exact a1 n n0 n1
  · unfold gm_upd at z
    split at z
    · next e =>
      subst e
      rcases hw.mp z with q | q
      · exact a3 _ f2 f3 q
      · exact hX (fun x hx => a3 x (f1 x hx).1 (f1 x hx).2 (q x hx))
    · exact a3 n n0 n1 z
  · rcases hR P y z with q2 | ⟨rfl, q2⟩
    · exact up y (a4 P y q2 q)
    · have e : gm_upd A y w y = w := if_pos rfl
      rw [e]
      exact hw.mpr (Or.inr (fun x hx => a2 x (f1 x hx).1 (f1 x hx).2 (q x (q2 x hx))))
  · unfold gm_upd at q
    split at q
    · next e =>
      subst e
      rcases hw.mp q with q | q
      · exact a5 z _ n0 n1 q
      · exact z P0 _ h0 (fun x hx => a5 z x (f1 x hx).1 (f1 x hx).2 (q x hx))
    · exact a5 z n n0 n1 q
def gq_ct (T : Nat) (A : Int → Int) : Nat := gct (fun n => decide (A n ≠ 0)) T
theorem gq_round {T : Nat} {Ra : (Int → Prop) → Int → Prop} {X : Int → Prop} {A1 A : Int → Int} {v : Int} (hf : gq_wf T Ra) (h : gq_ps T Ra Ra X A1 A) (hc : gq_cl Ra A1 ∨ v ≤ gq_ct T A1) : gq_cl Ra A ∨ v + 1 ≤ gq_ct T A := by
  obtain ⟨a1, a2, a3, a4, a5⟩ := h
  by_cases e : ∀ n : Int, 0 ≤ n → n < T → A n ≠ 0 → A1 n ≠ 0
  · exact Or.inl (fun P y z q => a4 P y z (fun x hx => e x ((hf P y z).1 x hx).1 ((hf P y z).1 x hx).2 (q x hx)))
  · rcases hc with hc | hc
    · exact absurd (a5 hc) e
    · right
      have ⟨i, hi⟩ := Classical.not_forall.mp e
      have i0 : 0 ≤ i := Classical.byContradiction (fun z => hi (fun a => absurd a z))
      have i1 : i < T := Classical.byContradiction (fun z => hi (fun _ a => absurd a z))
      have i2 : A i ≠ 0 := Classical.byContradiction (fun z => hi (fun _ _ a => absurd a z))
      have i3 : ¬ A1 i ≠ 0 := fun z => hi (fun _ _ _ => z)
      have := gct_lt (p := fun n => decide (A1 n ≠ 0)) (q := fun n => decide (A n ≠ 0)) T (fun n n0 n1 z => decide_eq_true (a2 n n0 n1 (of_decide_eq_true z))) i i0 i1 (decide_eq_true i2) (decide_eq_false i3)
      unfold gq_ct at hc ⊢
      omega
theorem gq_full {T : Nat} {Ra : (Int → Prop) → Int → Prop} {A : Int → Int} {v : Int} (hf : gq_wf T Ra) (hv : T ≤ v) (hc : gq_cl Ra A ∨ v ≤ gq_ct T A) : gq_cl Ra A := by
  rcases hc with hc | hc
  · exact hc
  · exact fun P y z _ => of_decide_eq_true (gct_full (p := fun n => decide (A n ≠ 0)) T (by unfold gq_ct at hc; omega) y (hf P y z).2.1 (hf P y z).2.2)
