/-! THE LAW: every call tells the same on both sides -/
theorem gl_lk_n {a i : Int} : ∀ ov : List (Int × Int × Int), ov.all (fun e => e.1 != a) = true → gh_lk ov a i = none
  | [], _ => rfl
  | e :: l, h => by
    have h2 : (e.1 != a && l.all (fun e => e.1 != a)) = true := h
    have h3 := Bool.and_eq_true_iff.mp h2
    rw [gh_lk_f (fun z => by
      have := bne_iff_ne.mp h3.1
      exact this z.1)]
    exact gl_lk_n l h3.2
theorem gl_at {L : Nat} {xs : Nat → Int32} {a i v : Int} (a0 : a ≠ 0) (a1 : a ≠ 1) (h : (gh_lk gh_o254 a i).getD 0 = v) : gh_ov gh_o254 L xs a i = v := by
  unfold gh_ov
  rw [← h]
  cases gh_lk gh_o254 a i with
  | some w => rfl
  | none =>
    show gh_m0 L xs a i = 0
    unfold gh_m0
    rw [if_neg a1, if_neg a0]
theorem gl_at0 {L : Nat} {xs : Nat → Int32} {i v : Int} (h : gh_lk gh_o254 0 i = some v) : gh_ov gh_o254 L xs 0 i = v := gh_ov_s h
theorem gl_init {L : Nat} {xs : Nat → Int32} : gl_I L 0 (gh_ov gh_o254 L xs) := by
  obtain ⟨m, hm⟩ : ∃ m, m = gh_ov gh_o254 L xs := ⟨_, rfl⟩
  have e31 : m 3 1 = 0 := by rw [hm]; exact gl_at (by decide) (by decide) (by decide +kernel)
  have e631 : m 63 1 = 0 := by rw [hm]; exact gl_at (by decide) (by decide) (by decide +kernel)
  have e51 : m 5 1 = 0 := by rw [hm]; exact gl_at (by decide) (by decide) (by decide +kernel)
  have e52 : m 5 2 = -1 := by rw [hm]; exact gl_at (by decide) (by decide) (by decide +kernel)
  have e632 : m 63 2 = 0 := by rw [hm]; exact gl_at (by decide) (by decide) (by decide +kernel)
  have e633 : m 63 3 = -1 := by rw [hm]; exact gl_at (by decide) (by decide) (by decide +kernel)
  have e210 : m 2 10 = 0 := by rw [hm]; exact gl_at (by decide) (by decide) (by decide +kernel)
  have e6324 : m 63 24 = 0 := by rw [hm]; exact gl_at (by decide) (by decide) (by decide +kernel)
  have e419 : m 41 9 = 0 := by rw [hm]; exact gl_at (by decide) (by decide) (by decide +kernel)
  have e417 : m 41 7 = 45 := by rw [hm]; exact gl_at (by decide) (by decide) (by decide +kernel)
  have e418 : m 41 8 = 46 := by rw [hm]; exact gl_at (by decide) (by decide) (by decide +kernel)
  have e4111 : m 41 11 = -1 := by rw [hm]; exact gl_at (by decide) (by decide) (by decide +kernel)
  have e6364 : m 63 64 = 0 := by rw [hm]; exact gl_at (by decide) (by decide) (by decide +kernel)
  have e364 : m 36 4 = 0 := by rw [hm]; exact gl_at (by decide) (by decide) (by decide +kernel)
  have e367 : m 36 7 = -1 := by rw [hm]; exact gl_at (by decide) (by decide) (by decide +kernel)
  have e263 : m 26 3 = 0 := by rw [hm]; exact gl_at (by decide) (by decide) (by decide +kernel)
  have e6350 : m 63 50 = 0 := by rw [hm]; exact gl_at (by decide) (by decide) (by decide +kernel)
  have e106 : ∀ x, m 106 x = 0 := fun x => by
    rw [hm]
    refine gl_at (by decide) (by decide) ?_
    rw [gl_lk_n gh_o254 (by decide +kernel)]
    rfl
  have e01 : m 0 1 = 118 := by rw [hm]; exact gl_at0 (by decide +kernel)
  have e00 : m 0 0 = 432919 := by rw [hm]; exact gl_at0 (by decide +kernel)
  have e90 : m 0 90 = 3 := by rw [hm]; exact gl_at0 (by decide +kernel)
  have e91 : m 0 91 = 0 := by rw [hm]; exact gl_at0 (by decide +kernel)
  have e92 : m 0 92 = 1 := by rw [hm]; exact gl_at0 (by decide +kernel)
  have e93 : m 0 93 = 0 := by rw [hm]; exact gl_at0 (by decide +kernel)
  have e03 : m 0 3 = L := by
    rw [hm, gh_ov_n (show gh_lk gh_o254 0 3 = none by decide +kernel)]
    rfl
  rw [← hm]
  refine ⟨⟨⟨?_, ?_, fun k k0 k1 => ?_⟩, by omega⟩, by omega, by omega, by omega, ⟨fun x => by rw [e106 x]; omega, by omega⟩, ⟨by rw [e364]; exact gbs_0 _, by omega, fun _ => by omega⟩, (0, 0, fun _ => 0, fun _ => 0, fun _ _ => 0), ⟨0, fun _ => 0, Or.inl ⟨e03, e417, e418, e01, e00, e90, e91, e92, e93⟩, by omega, by omega, by omega, fun z => by omega, fun n k e _ _ _ ke er => by omega, fun z => by omega⟩, fun z => absurd e210 z⟩
  · show m 63 1 = m 3 1
    omega
  · show 0 ≤ m 3 1
    omega
  · have k1' : k < m 3 1 := k1
    omega
theorem gl_case {L b v : Int} {m : gh_M} {Q : Int → gh_M → Prop} {K18 : Int → gh_M → Prop} (inv : gl_I L b m) (b0 : 0 ≤ b) (b1 : b ≤ 511) (v0 : 0 ≤ v) (v1 : v ≤ L - 6) (L1 : L ≤ 3072) (hk : ∀ m2, gl_I L (b + 1) m2 → m2 1 = m 1 → K18 (v + 6) m2) : f_Law_law_18 Q K18 v m := by
  have hK := gl_I_K inv
  unfold f_Law_law_18
  rw [hK]
  refine ⟨by omega, fun _ => ⟨v0, by omega, fun m2 => gl_I L (b + 1) m2 ∧ m2 1 = m 1, fun m2 h => ⟨by omega, hk m2 h.1 h.2⟩,
    fun _ => ⟨by omega, by omega, by omega, by omega, by omega, by omega, by omega, by omega, by omega, by omega, by omega, by omega, by omega, by omega, by omega, gl_type inv (fun r m1 e1 eK h => by
    (try dsimp only)
    rw [eK, e1]
    exact ⟨by omega, by omega, by omega, by omega, by omega, by omega, by omega, by omega, by omega, by omega, by omega, by omega, by omega, by omega, by omega, h _ (fun m2 q1 q2 => ⟨fun _ => ⟨q2, q1⟩, fun z => absurd rfl z⟩)⟩)⟩,
    fun _ => gl_wipe inv (fun r m1 e1 eK h => h _ (fun m2 q1 q2 => ⟨fun _ => ⟨q2, q1⟩, fun z => absurd rfl z⟩)),
    fun _ => ⟨by omega, by omega, by omega, (gl_sign inv).1, by omega, by omega, by omega, (gl_sign inv).2.1, fun _ => ⟨gl_I_up inv, rfl⟩, fun z => absurd (gl_sign inv).2.2 z⟩,
    fun _ => gl_read inv (fun r m1 e1 eK h => h _ (fun m2 q1 q2 => ⟨fun _ => ⟨q2, q1⟩, fun z => absurd rfl z⟩)),
    fun _ => ⟨by omega, by omega, by omega, gl_fault inv ⟨by omega, by omega, by omega, fun _ => ⟨gl_I_up inv, rfl⟩, fun z => absurd rfl z⟩⟩,
    fun _ => ⟨by omega, by omega, by omega, gl_sum inv (fun r h => ⟨by omega, by omega, by omega, h _ ⟨fun _ => ⟨gl_I_up inv, rfl⟩, fun z => absurd rfl z⟩⟩)⟩,
    fun _ => ⟨by omega, by omega, by omega, by omega, by omega, by omega, gl_name inv (fun r h => ⟨by omega, by omega, by omega, by omega, by omega, by omega, h _ ⟨fun _ => ⟨gl_I_up inv, rfl⟩, fun z => absurd rfl z⟩⟩)⟩,
    fun _ => ⟨by omega, by omega, by omega, by omega, by omega, by omega, gl_nameSign inv ⟨by omega, by omega, by omega, by omega, by omega, by omega, gl_knameSign inv, fun _ => ⟨gl_I_up inv, rfl⟩, fun z => absurd rfl z⟩⟩,
    fun _ => ⟨by omega, by omega, by omega, by omega, by omega, by omega, (gl_rule inv).1, by omega, by omega, by omega, by omega, by omega, by omega, (gl_rule inv).2.1, fun _ => ⟨gl_I_up inv, rfl⟩, fun z => absurd (gl_rule inv).2.2 z⟩,
    fun _ => ⟨by omega, by omega, by omega, by omega, by omega, by omega, (gl_part inv).1, by omega, by omega, by omega, by omega, by omega, by omega, (gl_part inv).2.1, fun _ => ⟨gl_I_up inv, rfl⟩, fun z => absurd (gl_part inv).2.2 z⟩,
    fun _ => ⟨by omega, by omega, by omega, (gl_first inv).1, by omega, by omega, by omega, (gl_first inv).2.1, fun _ => ⟨gl_I_up inv, rfl⟩, fun z => absurd (gl_first inv).2.2 z⟩,
    fun _ => ⟨by omega, by omega, by omega, (gl_follow inv).1, by omega, by omega, by omega, (gl_follow inv).2.1, fun _ => ⟨gl_I_up inv, rfl⟩, fun z => absurd (gl_follow inv).2.2 z⟩,
    fun _ => ⟨by omega, by omega, by omega, by omega, by omega, by omega, gl_table inv (fun r h => ⟨by omega, by omega, by omega, by omega, by omega, by omega, h _ ⟨fun _ => ⟨gl_I_up inv, rfl⟩, fun z => absurd rfl z⟩⟩)⟩,
    fun _ => ⟨by omega, by omega, by omega, gl_put inv (fun r m1 e1 eK h => by
    (try dsimp only)
    rw [eK, e1]
    exact ⟨by omega, by omega, by omega, h _ (fun m2 q1 q2 => ⟨fun _ => ⟨q2, q1⟩, fun z => absurd rfl z⟩)⟩)⟩,
    fun _ => ⟨by omega, by omega, by omega, gl_back inv (fun r m1 e1 eK h => by
    (try dsimp only)
    rw [eK, e1]
    exact ⟨by omega, by omega, by omega, h _ (fun m2 q1 q2 => ⟨fun _ => ⟨q2, q1⟩, fun z => absurd rfl z⟩)⟩)⟩,
    fun _ => ⟨by omega, by omega, by omega, gl_made inv (fun r m1 e1 eK h => by
    (try dsimp only)
    rw [eK, e1]
    exact ⟨by omega, by omega, by omega, h _ (fun m2 q1 q2 => ⟨fun _ => ⟨q2, q1⟩, fun z => absurd rfl z⟩)⟩)⟩,
    fun _ => ⟨by omega, by omega, by omega, (gl_letter inv).1, by omega, by omega, by omega, (gl_letter inv).2.1, fun _ => ⟨gl_I_up inv, rfl⟩, fun z => absurd (gl_letter inv).2.2 z⟩,
    fun _ => ⟨by omega, by omega, by omega, gl_accepts inv (fun r m1 e1 eK h => by
    (try dsimp only)
    rw [eK, e1]
    exact ⟨by omega, by omega, by omega, h _ (fun m2 q1 q2 => ⟨fun _ => ⟨q2, q1⟩, fun z => absurd rfl z⟩)⟩)⟩,
    fun _ => ⟨by omega, by omega, by omega, gl_next inv (fun r m1 e1 eK h => by
    (try dsimp only)
    rw [eK, e1]
    exact ⟨by omega, by omega, by omega, h _ (fun m2 q1 q2 => ⟨fun _ => ⟨q2, q1⟩, fun z => absurd rfl z⟩)⟩)⟩,
    fun _ => ⟨by omega, by omega, by omega, gl_items inv (fun r m1 e1 eK h => by
    (try dsimp only)
    rw [eK, e1]
    exact ⟨by omega, by omega, by omega, h _ (fun m2 q1 q2 => ⟨fun _ => ⟨q2, q1⟩, fun z => absurd rfl z⟩)⟩)⟩,
    fun _ => ⟨by omega, by omega, by omega, by omega, by omega, by omega, by omega, by omega, by omega, by omega, by omega, by omega, gl_isItem inv (fun r m1 e1 eK h => by
    (try dsimp only)
    rw [eK, e1]
    exact ⟨by omega, by omega, by omega, by omega, by omega, by omega, by omega, by omega, by omega, by omega, by omega, by omega, h _ (fun m2 q1 q2 => ⟨fun _ => ⟨q2, q1⟩, fun z => absurd rfl z⟩)⟩)⟩,
    fun _ => ⟨by omega, by omega, by omega, by omega, by omega, by omega, by omega, by omega, by omega, gl_makes inv (fun r m1 e1 eK h => by
    (try dsimp only)
    rw [eK, e1]
    exact ⟨by omega, by omega, by omega, by omega, by omega, by omega, by omega, by omega, by omega, h _ (fun m2 q1 q2 => ⟨fun _ => ⟨q2, q1⟩, fun z => absurd rfl z⟩)⟩)⟩,
    fun _ => ⟨by omega, by omega, by omega, gl_end inv (fun r m1 e1 eK h => by
    (try dsimp only)
    rw [eK, e1]
    exact ⟨by omega, by omega, by omega, h _ (fun m2 q1 q2 => ⟨fun _ => ⟨q2, q1⟩, fun z => absurd rfl z⟩)⟩)⟩,
    fun _ => gl_repair inv (fun r m1 e1 eK h => h _ (fun m2 q1 q2 => ⟨fun _ => ⟨q2, q1⟩, fun z => absurd rfl z⟩)),
    fun _ => ⟨by omega, by omega, by omega, by omega, by omega, by omega, by omega, by omega, by omega, gl_trees inv b0 b1 (fun r m1 e1 eK h => by
    (try dsimp only)
    rw [eK, e1]
    exact ⟨by omega, by omega, by omega, by omega, by omega, by omega, by omega, by omega, by omega, h _ (fun m2 q1 q2 => ⟨fun _ => ⟨q2, q1⟩, fun z => absurd rfl z⟩)⟩)⟩,
    fun _ => ⟨by omega, by omega, by omega, by omega, by omega, by omega, gl_pick inv b0 b1 (fun r m1 e1 eK h => by
    (try dsimp only)
    rw [eK, e1]
    exact ⟨by omega, by omega, by omega, by omega, by omega, by omega, h _ (fun m2 q1 q2 => ⟨fun _ => ⟨q2, q1⟩, fun z => absurd rfl z⟩)⟩)⟩,
    fun _ => ⟨by omega, by omega, by omega, (gl_step inv).1, by omega, by omega, by omega, (gl_step inv).2.1, fun _ => ⟨gl_I_up inv, rfl⟩, fun z => absurd (gl_step inv).2.2 z⟩,
    fun _ => ⟨fun _ => ⟨gl_I_up inv, rfl⟩, fun z => absurd (gl_deep inv) z⟩,
    fun _ => ⟨by omega, by omega, by omega, gl_proper inv (fun r m1 e1 eK i1 h => by
    (try dsimp only)
    rw [eK, e1]
    exact ⟨by omega, by omega, by omega, h _ ⟨fun _ => ⟨i1, rfl⟩, fun z => absurd rfl z⟩⟩)⟩,
    fun _ => ⟨by omega, by omega, by omega, gl_properly inv (fun r m1 e1 eK h => by
    (try dsimp only)
    rw [eK, e1]
    exact ⟨by omega, by omega, by omega, h _ (fun m2 q1 q2 => ⟨fun _ => ⟨q2, q1⟩, fun z => absurd rfl z⟩)⟩)⟩,
    fun _ => gl_digest inv (fun r m1 e1 eK h => h _ (fun m2 q1 q2 => ⟨fun _ => ⟨q2, q1⟩, fun z => absurd rfl z⟩)),
    fun _ _ _ _ _ _ _ _ _ _ _ _ _ _ _ _ _ _ _ _ _ _ _ _ _ _ _ _ _ _ _ => ⟨gl_I_up inv, rfl⟩⟩, fun z => absurd v1 z⟩
/-- the law's run, over the memory as the constructors leave it -/
theorem gl_law {L : Nat} {xs : Nat → Int32} (hL : L ≤ 3072) : w_Law (gh_ov gh_o254 L xs) (fun r m' => r = 1 ∧ m' 0 1 ≤ 600002 ∧ m' 0 0 ≤ 7302250) := by
  unfold w_Law
  refine ⟨fun v m => ∃ b, 0 ≤ b ∧ v = 6 * b ∧ v ≤ 4000 ∧ gl_I L b m, fun v _ => (5000 - v).toNat, ⟨0, Int.le_refl _, rfl, by decide, gl_init⟩, ?_⟩
  rintro v m ⟨b, b0, hv, v4, inv⟩
  have hK := gl_I_K inv
  by_cases c : v ≤ (L : Int) - 6
  · refine gl_case inv b0 (by omega) (by omega) c (by omega) (fun m2 i2 _ => ⟨⟨b + 1, by omega, by omega, by omega, i2⟩, by (try dsimp only); omega⟩)
  · unfold f_Law_law_18
    rw [hK]
    refine ⟨by omega, fun z => absurd z c, fun _ => ⟨rfl, ?_⟩⟩
    obtain ⟨_, _, _, _, _, _, G, ⟨z, t, fo⟩, _⟩ := inv
    rcases fo.1 with q | q
    · omega
    · omega
