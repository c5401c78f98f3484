/-! THE CELLS NUMBERED ANEW, behind the constructors: the class as it would be with nothing made ahead of it -/
def gh_on (v : Int) : Int := if v < 2 then v else if v < 5 then v + 61 else if v < 66 then v - 3 else v
def gh_off (v : Int) : Int := if v < 2 then v else if v < 63 then v + 3 else if v < 66 then v - 61 else v
theorem gh_on_2 {v : Int} (h : 2 ≤ v) : 2 ≤ gh_on v := by
  unfold gh_on
  split
  · omega
  · split
    · omega
    · split <;> omega
theorem gh_off_2 {v : Int} (h : 2 ≤ v) : 2 ≤ gh_off v := by
  unfold gh_off
  split
  · omega
  · split
    · omega
    · split <;> omega
theorem gh_on_lt {v n : Int} (h : v < n) (hn : 66 ≤ n) : gh_on v < n := by
  unfold gh_on
  split
  · omega
  · split
    · omega
    · split <;> omega
theorem gh_off_lt {v n : Int} (h : v < n) (hn : 66 ≤ n) : gh_off v < n := by
  unfold gh_off
  split
  · omega
  · split
    · omega
    · split <;> omega
theorem gh_off_0 {v : Int} (h : v ≠ 0) : gh_off v ≠ 0 := by
  unfold gh_off
  split
  · omega
  · split
    · omega
    · split <;> omega
theorem gh_off_ok {t v : Int} (h : gh_ok t v) : gh_ok t (gh_off v) := by
  unfold gh_ok at h ⊢
  split at h
  · rename_i c
    rw [if_pos c]
    unfold gh_off
    split
    · exact h
    · split
      · omega
      · split <;> omega
  · rename_i c
    rw [if_neg c]
    split at h
    · rename_i c2
      rw [if_pos c2]
      unfold gh_off
      split
      · exact h
      · split
        · omega
        · split <;> omega
    · rename_i c2
      rw [if_neg c2]
      trivial
theorem gh_off_cs (v : Int) : (v < 2 → gh_off v = v) ∧ (2 ≤ v → v < 63 → gh_off v = v + 3) ∧ (63 ≤ v → v < 66 → gh_off v = v - 61) ∧ (66 ≤ v → gh_off v = v) := by
  unfold gh_off
  refine ⟨fun c => if_pos c, fun c d => ?_, fun c d => ?_, fun c => ?_⟩
  · rw [if_neg (by omega), if_pos d]
  · rw [if_neg (by omega), if_neg (by omega), if_pos d]
  · rw [if_neg (by omega), if_neg (by omega), if_neg (by omega)]
theorem gh_on_cs (v : Int) : (v < 2 → gh_on v = v) ∧ (2 ≤ v → v < 5 → gh_on v = v + 61) ∧ (5 ≤ v → v < 66 → gh_on v = v - 3) ∧ (66 ≤ v → gh_on v = v) := by
  unfold gh_on
  refine ⟨fun c => if_pos c, fun c d => ?_, fun c d => ?_, fun c => ?_⟩
  · rw [if_neg (by omega), if_pos d]
  · rw [if_neg (by omega), if_neg (by omega), if_pos d]
  · rw [if_neg (by omega), if_neg (by omega), if_neg (by omega)]
theorem gh_pi_cs (v : Int) : (v < 63 → gh_pi v = v + 1) ∧ (63 ≤ v → v < 66 → gh_pi v = v - 63) ∧ (66 ≤ v → gh_pi v = v - 2) := by
  unfold gh_pi
  refine ⟨fun c => if_pos c, fun c d => ?_, fun c => ?_⟩
  · rw [if_neg (by omega), if_pos d]
  · rw [if_neg (by omega), if_neg (by omega)]
section G11
variable {l : Launch} {G : va_G} {a : Int → ClassId} {b B : Nat}
theorem gh_ad_f {v : Int} (h : v ≠ 1) : gh_ad (l, G, a, b, B, false) v = B + (v - 2).toNat := by
  unfold gh_ad
  show (if v = 1 then b else B + (if false = true then gh_pi v else v - 2).toNat) = _
  rw [if_neg h]
  rfl
theorem gh_ad_t {v : Int} (h : v ≠ 1) : gh_ad (l, G, a, b, B, true) v = B + (gh_pi v).toNat := by
  unfold gh_ad
  show (if v = 1 then b else B + (if true = true then gh_pi v else v - 2).toNat) = _
  rw [if_neg h]
  rfl
theorem gh_ad_off {v : Int} (h : v ≠ 0) : gh_ad (l, G, a, b, B, false) (gh_off v) = gh_ad (l, G, a, b, B, true) v := by
  by_cases c : v = 1
  · rw [c]
    rfl
  · have o := gh_off_cs v
    have p := gh_pi_cs v
    rw [gh_ad_f (by omega), gh_ad_t c]
    omega
theorem gh_cv_off {t v : Int} (w : Int) (h1 : t = 2 → w = gh_off v) (h2 : t ≠ 2 → w = v) (h3 : t = 0 ∨ t = 1 ∨ t = 2) : gh_cv (l, G, a, b, B, false) t w = gh_cv (l, G, a, b, B, true) t v := by
  rcases h3 with rfl | rfl | rfl
  · rw [h2 (by decide)]
    rfl
  · rw [h2 (by decide)]
    rfl
  · rw [h1 rfl]
    by_cases c : v = 0
    · rw [c]
      rfl
    · rw [gh_cv2 _ c, gh_cv2 _ (gh_off_0 c), gh_ad_off c]
end G11
theorem gh_tF3 (ty : FieldType) : gh_tF ty = 0 ∨ gh_tF ty = 1 ∨ gh_tF ty = 2 := by
  cases ty <;> first | exact Or.inl rfl | exact Or.inr (Or.inl rfl) | exact Or.inr (Or.inr rfl)
theorem gh_tg3 (κ j : Int) : gh_tg κ j = 0 ∨ gh_tg κ j = 1 ∨ gh_tg κ j = 2 := by
  unfold gh_tg
  split
  · exact Or.inl rfl
  · split
    · exact Or.inl rfl
    · split
      · exact Or.inr (Or.inl rfl)
      · exact gh_tF3 _
/-- a memory with the cells' old numbers, of one with the new -/
def gh_tgk (κ j : Int) : Int := if κ < 10 then gh_tg κ 0 else gh_tg κ j
theorem gh_tgk_a {κ j : Int} (h : κ < 10) : gh_tgk κ j = gh_tg κ 0 := if_pos h
theorem gh_tgk_o {κ j : Int} (h : ¬ κ < 10) : gh_tgk κ j = gh_tg κ j := if_neg h
def gh_ren (m : gh_M) : gh_M := fun a i =>
  if a = 0 then (if i < 4 then m 0 i else m 0 (2 * gh_on (i / 2) + i % 2))
  else if a = 1 then m 1 i
  else if gh_tgk (m 0 (2 * gh_on a)) i = 2 then gh_off (m (gh_on a) i) else m (gh_on a) i
theorem gh_ren_0 {m : gh_M} {i : Int} (h : i < 4) : gh_ren m 0 i = m 0 i := by
  unfold gh_ren
  rw [if_pos rfl, if_pos h]
theorem gh_ren_k {m : gh_M} {k : Int} (h : 2 ≤ k) : gh_ren m 0 (2 * k) = m 0 (2 * gh_on k) := by
  unfold gh_ren
  rw [if_pos rfl, if_neg (by omega)]
  have e1 : 2 * k / 2 = k := by omega
  have e2 : 2 * k % 2 = 0 := by omega
  rw [e1, e2, Int.add_zero]
theorem gh_ren_l {m : gh_M} {k : Int} (h : 2 ≤ k) : gh_ren m 0 (2 * k + 1) = m 0 (2 * gh_on k + 1) := by
  unfold gh_ren
  rw [if_pos rfl, if_neg (by omega)]
  have e1 : (2 * k + 1) / 2 = k := by omega
  have e2 : (2 * k + 1) % 2 = 1 := by omega
  rw [e1, e2]
theorem gh_ren_1 {m : gh_M} : gh_ren m 1 = m 1 := by
  funext i
  unfold gh_ren
  rw [if_neg (by decide), if_pos rfl]
theorem gh_ren_v {m : gh_M} {k i : Int} (h : 2 ≤ k) : (gh_tgk (m 0 (2 * gh_on k)) i = 2 → gh_ren m k i = gh_off (m (gh_on k) i)) ∧ (gh_tgk (m 0 (2 * gh_on k)) i ≠ 2 → gh_ren m k i = m (gh_on k) i) := by
  unfold gh_ren
  rw [if_neg (by omega), if_neg (by omega)]
  exact ⟨fun c => if_pos c, fun c => if_neg c⟩
theorem gh_ren_Mok {m : gh_M} (h : gh_Mok m) (h66 : 66 ≤ m 0 1) : gh_Mok (gh_ren m) := by
  obtain ⟨h1, h2, h3, h4, h5⟩ := h
  refine ⟨fun k j k1 k2 j1 j2 => ?_, fun k k1 k2 => ?_, ?_, ?_, ?_⟩
  · rw [gh_ren_0 (by decide)] at k2
    by_cases c : k = 1
    · subst c
      have e2 : gh_ren m 0 (2 * 1) = m 0 (2 * 1) := gh_ren_0 (by decide)
      have e3 : gh_ren m 0 (2 * 1 + 1) = m 0 (2 * 1 + 1) := gh_ren_0 (by decide)
      rw [e3] at j2
      rw [e2, gh_ren_1]
      exact h1 1 j (by decide) k2 j1 j2
    · have kk : 2 ≤ k := by omega
      rw [gh_ren_l kk] at j2
      rw [gh_ren_k kk]
      have := h1 (gh_on k) j (by have := gh_on_2 kk; omega) (gh_on_lt k2 h66) j1 j2
      by_cases c2 : gh_tgk (m 0 (2 * gh_on k)) j = 2
      · rw [(gh_ren_v kk).1 c2]
        exact gh_off_ok this
      · rw [(gh_ren_v kk).2 c2]
        exact this
  · rw [gh_ren_0 (by decide)] at k2
    by_cases c : k = 1
    · subst c
      have e3 : gh_ren m 0 (2 * 1 + 1) = m 0 (2 * 1 + 1) := gh_ren_0 (by decide)
      rw [e3]
      exact h2 1 (by decide) k2
    · have kk : 2 ≤ k := by omega
      rw [gh_ren_l kk]
      exact h2 (gh_on k) (by have := gh_on_2 kk; omega) (gh_on_lt k2 h66)
  · rw [gh_ren_0 (by decide)]
    exact h3
  · rw [gh_ren_0 (by decide)]
    exact h4
  · rw [gh_ren_0 (by decide)]
    exact h5
section G12
variable {l : Launch} {G : va_G} {a : Int → ClassId} {b B : Nat}
/-- a cell with its new number is the cell with its old one -/
theorem gh_cell_off {m m2 : gh_M} {k k2 : Int} {H : Heap} (hk : k ≠ 0) (e : k2 = gh_off k) (e1 : m2 0 (2 * k2) = m 0 (2 * k)) (e2 : m2 0 (2 * k2 + 1) = m 0 (2 * k + 1))
    (h3 : m 0 (2 * k) < 10 → ∀ j : Int, (gh_tg (m 0 (2 * k)) 0 = 2 → m2 k2 j = gh_off (m k j)) ∧ (gh_tg (m 0 (2 * k)) 0 ≠ 2 → m2 k2 j = m k j))
    (h4 : ∀ q : vw_C, ¬ m 0 (2 * k) < 10 → gh_cl[(m 0 (2 * k) - 10).toNat]? = some q → ∀ j : Nat, j < q.2.2 → (gh_tg (m 0 (2 * k)) j = 2 → m2 k2 j = gh_off (m k j)) ∧ (gh_tg (m 0 (2 * k)) j ≠ 2 → m2 k2 j = m k j)) :
    gh_cell (l, G, a, b, B, false) m2 k2 H ↔ gh_cell (l, G, a, b, B, true) m k H := by
  unfold gh_cell
  rw [e1, e2, e, gh_ad_off hk, ← e]
  by_cases c : m 0 (2 * k) < 10
  · rw [if_pos c, if_pos c]
    have e5 : (fun j : Nat => gh_cv (l, G, a, b, B, false) (gh_tg (m 0 (2 * k)) 0) (m2 k2 j)) = fun j : Nat => gh_cv (l, G, a, b, B, true) (gh_tg (m 0 (2 * k)) 0) (m k j) := by
      funext j
      exact gh_cv_off _ (h3 c j).1 (h3 c j).2 (gh_tg3 _ _)
    rw [e5]
  · rw [if_neg c, if_neg c]
    constructor
    · rintro ⟨q, q1, q2⟩
      exact ⟨q, q1, q2.to (fun j hj => gh_cv_off _ (h4 q c q1 j hj).1 (h4 q c q1 j hj).2 (gh_tg3 _ _))⟩
    · rintro ⟨q, q1, q2⟩
      exact ⟨q, q1, q2.to (fun j hj => (gh_cv_off _ (h4 q c q1 j hj).1 (h4 q c q1 j hj).2 (gh_tg3 _ _)).symm)⟩
theorem gh_off_on {k : Int} (h : 2 ≤ k) : gh_off (gh_on k) = k := by
  have a := gh_on_cs k
  have b := gh_off_cs (gh_on k)
  omega
theorem gh_R_ren {m : gh_M} {U : State} {H : Heap} (h : gh_R (l, G, a, b, B, true) m U H) : gh_R (l, G, a, b, B, false) (gh_ren m) U H := by
  obtain ⟨h1, h2, ⟨h3, hf⟩, h4⟩ := h
  have h66 : 66 ≤ m 0 1 := hf rfl
  refine ⟨fun k k2 k3 => ?_, ?_, ⟨h3, fun z => by cases z⟩, ?_⟩
  · rw [gh_ren_0 (by decide)] at k3
    have n2 := gh_on_2 k2
    refine (gh_cell_off (k := gh_on k) (by omega) (gh_off_on k2).symm (gh_ren_k k2) (gh_ren_l k2) (fun c j => ?_) (fun q c q1 j hj => ?_)).mpr (h1 (gh_on k) n2 (gh_on_lt k3 h66))
    · have e := gh_ren_v (m := m) (i := j) k2
      rw [gh_tgk_a c] at e
      exact e
    · have e := gh_ren_v (m := m) (i := (j : Int)) k2
      rw [gh_tgk_o c] at e
      exact e
  · rw [gh_ren_0 (by decide)]
    exact h2
  · rw [gh_ren_0 (by decide), gh_ren_1]
    exact h4
end G12
/-! the memory that the constructors leave -/
def gh_g (ov : List (Int × Int × Int)) (a i : Int) : Int := (gh_lk ov a i).getD 0
theorem gh_ov_g {ov : List (Int × Int × Int)} {L : Nat} {xs : Nat → Int32} {a i : Int} (h : 2 ≤ a ∨ (a = 0 ∧ 4 ≤ i)) : gh_ov ov L xs a i = gh_g ov a i := by
  unfold gh_ov gh_g
  cases gh_lk ov a i with
  | some v => rfl
  | none =>
    show gh_m0 L xs a i = 0
    unfold gh_m0
    rcases h with h | ⟨h, h2⟩
    · rw [if_neg (by omega), if_neg (by omega)]
    · rw [if_neg (by omega), if_pos h, if_neg (by omega), if_neg (by omega), if_neg (by omega)]
def gh_chk (k : Int) : Bool :=
  gh_g gh_oE 0 (2 * gh_off k) == gh_g gh_oR 0 (2 * k) && gh_g gh_oE 0 (2 * gh_off k + 1) == gh_g gh_oR 0 (2 * k + 1) &&
  (if gh_g gh_oR 0 (2 * k) < 10 then gh_oR.all (fun e => !(e.1 == k)) && gh_oE.all (fun e => !(e.1 == gh_off k))
   else (List.range 17).all (fun j => if gh_tg (gh_g gh_oR 0 (2 * k)) j = 2 then gh_g gh_oE (gh_off k) j == gh_off (gh_g gh_oR k j) else gh_g gh_oE (gh_off k) j == gh_g gh_oR k j))
theorem gh_chk_all : (List.range 64).all (fun k => gh_chk ((k : Int) + 2)) = true := by decide +kernel
theorem gh_cl_17 : ∀ (n : Nat) (q : vw_C), gh_cl[n]? = some q → q.2.2 ≤ 17 := by
  have h : gh_cl.all (fun q => decide (q.2.2 ≤ 17)) = true := by decide +kernel
  intro n q hq
  have := List.all_eq_true.mp h q (List.mem_of_getElem? hq)
  simpa using this
theorem gh_g_n {ov : List (Int × Int × Int)} {k j : Int} (h : ov.all (fun e => !(e.1 == k)) = true) : gh_g ov k j = 0 := by
  unfold gh_g
  rw [gh_lk_n ov h j]
  rfl
theorem gh_oR_v : gh_oR.all (fun e => decide (-1 ≤ e.2.2) && decide (e.2.2 < 100000) && (!(e.1 == 0) || decide (0 ≤ e.2.2))) = true := by decide +kernel
theorem gh_lk_p {P : Int → Int → Prop} : ∀ (ov : List (Int × Int × Int)) (a i v : Int), (∀ e ∈ ov, P e.1 e.2.2) → gh_lk ov a i = some v → P a v
  | [], _, _, _, _, h => by cases h
  | e :: l, a, i, v, hp, h => by
    by_cases c : e.1 = a ∧ e.2.1 = i
    · rw [gh_lk_t c] at h
      rw [← c.1, ← Option.some.inj h]
      exact hp e List.mem_cons_self
    · rw [gh_lk_f c] at h
      exact gh_lk_p l a i v (fun x hx => hp x (List.mem_cons_of_mem _ hx)) h
theorem gh_g_r (a i : Int) : -1 ≤ gh_g gh_oR a i ∧ gh_g gh_oR a i < 100000 ∧ (a = 0 → 0 ≤ gh_g gh_oR a i) := by
  unfold gh_g
  cases h : gh_lk gh_oR a i with
  | none => exact ⟨by decide, by decide, fun _ => by decide⟩
  | some v =>
    refine gh_lk_p (P := fun a v => -1 ≤ v ∧ v < 100000 ∧ (a = 0 → 0 ≤ v)) gh_oR a i v (fun e he => ?_) h
    have := List.all_eq_true.mp gh_oR_v e he
    simp only [Bool.and_eq_true, decide_eq_true_eq, Bool.or_eq_true, Bool.not_eq_true', beq_eq_false_iff_ne, ne_eq] at this
    exact ⟨this.1.1, this.1.2, fun z => this.2.resolve_left (fun y => y z)⟩
section G13
variable {Ln : Nat} {xs : Nat → Int32}
theorem gh_oR_01 : gh_ov gh_oR Ln xs 0 1 = 66 := gh_ov_s (by decide +kernel)
theorem gh_oE_01 : gh_ov gh_oE Ln xs 0 1 = 66 := gh_ov_s (by decide +kernel)
theorem gh_oR_00 : gh_ov gh_oR Ln xs 0 0 = 6047 := gh_ov_s (by decide +kernel)
theorem gh_oE_00 : gh_ov gh_oE Ln xs 0 0 = 6047 := gh_ov_s (by decide +kernel)
theorem gh_oR_03 : gh_ov gh_oR Ln xs 0 3 = Ln := gh_ov_n (show gh_lk gh_oR 0 3 = none by decide +kernel)
theorem gh_oE_03 : gh_ov gh_oE Ln xs 0 3 = Ln := gh_ov_n (show gh_lk gh_oE 0 3 = none by decide +kernel)
theorem gh_oR_02 : gh_ov gh_oR Ln xs 0 2 = 1 := gh_ov_n (show gh_lk gh_oR 0 2 = none by decide +kernel)
theorem gh_oR_1 : gh_ov gh_oR Ln xs 1 = gh_m0 Ln xs 1 := by
  funext i
  exact gh_ov_n (gh_lk_n gh_oR (by decide +kernel) i)
theorem gh_oE_1 : gh_ov gh_oE Ln xs 1 = gh_m0 Ln xs 1 := by
  funext i
  exact gh_ov_n (gh_lk_n gh_oE (by decide +kernel) i)
theorem gh_oR_Mok (hL : Ln ≤ 260) : gh_Mok (gh_ov gh_oR Ln xs) := by
  have small : ∀ t v : Int, -1 ≤ v → v < 100000 → gh_ok t v := fun t v h1 h2 => by
    unfold gh_ok
    split
    · omega
    · split
      · omega
      · trivial
  refine ⟨fun k j k1 k2 j1 j2 => ?_, fun k k1 k2 => ?_, by rw [gh_oR_01]; decide, by rw [gh_oR_00]; decide, gh_oR_02⟩
  · by_cases c : k = 1
    · subst c
      have e2 : gh_ov gh_oR Ln xs 0 (2 * 1) = 1 := gh_oR_02
      rw [e2, gh_oR_1]
      show gh_ok 0 (gh_m0 Ln xs 1 j)
      unfold gh_m0
      rw [if_pos rfl]
      exact gh_ok32 _
    · have kk : 2 ≤ k := by omega
      rw [gh_ov_g (a := k) (Or.inl kk)]
      obtain ⟨g1, g2, _⟩ := gh_g_r k j
      exact small _ _ g1 g2
  · by_cases c : k = 1
    · subst c
      have e2 : gh_ov gh_oR Ln xs 0 (2 * 1 + 1) = Ln := gh_oR_03
      rw [e2]
      omega
    · rw [gh_ov_g (Or.inr ⟨rfl, by omega⟩)]
      obtain ⟨g1, g2, g3⟩ := gh_g_r 0 (2 * k + 1)
      have := g3 rfl
      omega
theorem gh_R_on {l : Launch} {G : va_G} {a : Int → ClassId} {b B : Nat} {U : State} {H : Heap} (h : gh_R (l, G, a, b, B, false) (gh_ov gh_oE Ln xs) U H) : gh_R (l, G, a, b, B, true) (gh_ov gh_oR Ln xs) U H := by
  obtain ⟨h1, h2, ⟨h3, _⟩, h4⟩ := h
  rw [gh_oE_01] at h1 h2
  rw [gh_oE_03, gh_oE_1] at h4
  refine ⟨fun k k2 k3 => ?_, by rw [gh_oR_01]; exact h2, ⟨h3, fun _ => by rw [gh_oR_01]; decide⟩, by rw [gh_oR_03, gh_oR_1]; exact h4⟩
  rw [gh_oR_01] at k3
  have ck : gh_chk k = true := by
    have := List.all_eq_true.mp gh_chk_all (k - 2).toNat (List.mem_range.mpr (by omega))
    have e : (((k - 2).toNat : Nat) : Int) + 2 = k := by omega
    rw [e] at this
    exact this
  unfold gh_chk at ck
  simp only [Bool.and_eq_true, beq_iff_eq] at ck
  obtain ⟨⟨c1, c2⟩, c3⟩ := ck
  have o2 := gh_off_2 k2
  have s1 : gh_ov gh_oE Ln xs 0 (2 * gh_off k) = gh_ov gh_oR Ln xs 0 (2 * k) := by
    rw [gh_ov_g (Or.inr ⟨rfl, by omega⟩), gh_ov_g (Or.inr ⟨rfl, by omega⟩)]
    exact c1
  have s2 : gh_ov gh_oE Ln xs 0 (2 * gh_off k + 1) = gh_ov gh_oR Ln xs 0 (2 * k + 1) := by
    rw [gh_ov_g (Or.inr ⟨rfl, by omega⟩), gh_ov_g (Or.inr ⟨rfl, by omega⟩)]
    exact c2
  have sk : gh_ov gh_oR Ln xs 0 (2 * k) = gh_g gh_oR 0 (2 * k) := gh_ov_g (Or.inr ⟨rfl, by omega⟩)
  refine (gh_cell_off (by omega) rfl s1 s2 (fun c j => ?_) (fun q c q1 j hj => ?_)).mp (h1 (gh_off k) o2 (gh_off_lt k3 (by decide)))
  · rw [sk] at c
    rw [if_pos c] at c3
    simp only [Bool.and_eq_true] at c3
    rw [gh_ov_g (Or.inl o2), gh_ov_g (Or.inl k2), gh_g_n c3.1, gh_g_n c3.2]
    exact ⟨fun _ => rfl, fun _ => rfl⟩
  · have h17 := gh_cl_17 _ q q1
    rw [sk] at c ⊢
    rw [if_neg c] at c3
    have := List.all_eq_true.mp c3 j (List.mem_range.mpr (by omega))
    rw [gh_ov_g (Or.inl o2), gh_ov_g (Or.inl k2)]
    refine ⟨fun t => ?_, fun t => ?_⟩
    · rw [if_pos t] at this
      simpa using this
    · rw [if_neg t] at this
      simpa using this
/-- a run from behind the constructors, over the cells numbered anew, is one over the cells as they were made -/
theorem gh_conv {l : Launch} {G : va_G} {a : Int → ClassId} {b B d : Nat} {Q : Int → Int → Int → Prop} (hL : Ln ≤ 260) (k : gh_T (l, G, a, b, B, true) gh_MLaw d 23 [(4, 2, 2), (3, 2, 65), (2, 2, 64), (1, 2, 63), (0, 2, 1)] [] (gh_ov gh_oR Ln xs) (fun r m' => Q r (m' 0 1) (m' 0 0))) :
    gh_T (l, G, a, b, B, false) gh_MLaw d 23 [(4, 2, 5), (3, 2, 4), (2, 2, 3), (1, 2, 2), (0, 2, 1)] [] (gh_ov gh_oE Ln xs) (fun r m' => Q r (m' 0 1) (m' 0 0)) := by
  intro hp
  obtain ⟨r, m', h1, h2, h3, h4, h6, h5⟩ := k ⟨gh_oR_Mok hL, fun q hq => by
    simp only [List.mem_cons, List.not_mem_nil, or_false] at hq
    rcases hq with rfl | rfl | rfl | rfl | rfl <;> trivial, fun q hq => by cases hq⟩
  rw [gh_oR_00] at h2
  rw [gh_oR_01] at h3
  rw [gh_oR_00, gh_oR_01] at h5
  have r1 : gh_ren m' 0 1 = m' 0 1 := gh_ren_0 (by decide)
  have r0 : gh_ren m' 0 0 = m' 0 0 := gh_ren_0 (by decide)
  refine ⟨r, gh_ren m', by show Q r (gh_ren m' 0 1) (gh_ren m' 0 0); rw [r1, r0]; exact h1, by rw [r0, gh_oE_00]; exact h2, by rw [r1, gh_oE_01]; exact h3, h4, ⟨gh_ren_Mok h6.1 h3, h6.2⟩, ?_⟩
  rw [r1, r0, gh_oE_00, gh_oE_01]
  intro p e R s mt args below meth c hE H locs cells slots ls Qs hA hc hs K
  refine h5 p e R s mt args below meth c hE H locs cells slots ls Qs ⟨gh_R_on hA.1, hA.2.1, ?_⟩ hc hs (fun H' locs' ls' pc' hA' hr' => ?_)
  · have e9 : gh_lc (l, G, a, b, B, true) [(4, 2, 2), (3, 2, 65), (2, 2, 64), (1, 2, 63), (0, 2, 1)] = gh_lc (l, G, a, b, B, false) [(4, 2, 5), (3, 2, 4), (2, 2, 3), (1, 2, 2), (0, 2, 1)] := rfl
    rw [e9]
    exact hA.2.2
  · have e8 : gh_sc (l, G, a, b, B, true) (gh_rs gh_MLaw r) = gh_sc (l, G, a, b, B, false) (gh_rs gh_MLaw r) := rfl
    rw [e8]
    exact K H' locs' ls' pc' ⟨gh_R_ren hA'.1, hA'.2.1, hA'.2.2⟩ hr'
end G13
