/-! WHAT THE CALLS TELL, AGAINST ONE ANOTHER -/
theorem gj_ib {P : Prop} : (gt_ib P = 1 ↔ P) ∧ (gt_ib P = 0 ↔ ¬ P) := by
  by_cases c : P
  · rw [gt_ib_t c]
    exact ⟨⟨fun _ => c, fun _ => rfl⟩, ⟨fun y => absurd y (by decide), fun y => absurd c y⟩⟩
  · rw [gt_ib_f c]
    exact ⟨⟨fun y => absurd y (by decide), fun y => absurd y c⟩, ⟨fun _ => c, fun _ => rfl⟩⟩
theorem gj_no26 {x : Int} (h : x < 67108864) : ¬ gb x 26 := by
  intro y
  have y : x.toNat.testBit 26 = true := y
  rw [Nat.testBit_lt_two_pow (show x.toNat < 2 ^ 26 by omega)] at y
  exact absurd y (by decide)
theorem gj_no0 {c : Int} : ¬ gb 0 c := by
  intro y
  have y : (0 : Nat).testBit c.toNat = true := y
  rw [Nat.zero_testBit] at y
  exact absurd y (by decide)
section G33
variable {K u : Int} {G : gm_G} {m m1 : gh_M} {v s e : Int}
theorem gj_nv_f (f : gj_f m m1) (h : gl_nv G m1 v s) : gl_nv G m v s := by
  unfold gl_nv at h ⊢
  rw [f 26 (by decide), f 27 (by decide), f 20 (by decide)] at h
  exact h
theorem gj_wv_f (f : gj_f m m1) (h : gj_wv G m1 v e) : gj_wv G m v e := by
  unfold gj_wv at h ⊢
  rw [f 26 (by decide), f 27 (by decide), f 21 (by decide)] at h
  exact h
theorem gj_rv_f (f : gj_f m m1) (h : gj_rv G m1 e) : gj_rv G m e := by
  unfold gj_rv at h ⊢
  rw [f 26 (by decide), f 27 (by decide), f 20 (by decide), f 21 (by decide)] at h
  exact h
theorem gj_iv_f (f : gj_f m m1) : gl_iv G m1 v = gl_iv G m v := by
  unfold gl_iv
  rw [f 26 (by decide), f 27 (by decide)]
theorem gj_nv_go (j : gj_S K u G m) (hv : ¬ v < 0 ∧ v ≤ m 26 3) (nv : gl_nv G m v s) : s ≠ 0 ↔ gj_go G (m 26 3) (m 27) (gb (m 20 5)) v ∨ gt_M G (m 26 3) (m 27) 0 0 v := by
  obtain ⟨n1, n2⟩ := nv
  constructor
  · intro h
    obtain ⟨c, c0, hc⟩ := gj_bit (x := s) (by have := n1.1; omega)
    rcases (n2 c c0).mp hc with y | y
    · exact Or.inl ⟨c, c0, y⟩
    · exact Or.inr y.2
  · intro h e
    rw [e] at n2
    rcases h with ⟨c, c0, y⟩ | y
    · exact gj_no0 ((n2 c c0).mpr (Or.inl y))
    · exact gj_no0 ((n2 26 (by decide)).mpr (Or.inr ⟨rfl, y⟩))
theorem gj_nv_26 (j : gj_S K u G m) (nv : gl_nv G m v s) : gh_iand_f (gh_ishr_f s 26) 1 = gt_ib (gt_M G (m 26 3) (m 27) 0 0 v) := by
  obtain ⟨n1, n2⟩ := nv
  have hG := (gj_t j).1
  rw [gt_test (gbs_le n1 (by decide)) (by decide) (by decide)]
  refine gt_ib_cg ((n2 26 (by decide)).trans ⟨fun y => ?_, fun y => Or.inr ⟨rfl, y⟩⟩)
  rcases y with ⟨r, i, d, ⟨r0, r1, _⟩, d0, d1, hn, hb, _⟩ | y
  · exact absurd hb (gj_no26 (gj_set hG r0 r1 d0 d1 hn).2)
  · exact y.2
theorem gj_facts (j : gj_S K u G m) (hv : ¬ v < 0 ∧ v ≤ m 26 3) (nv : gl_nv G m v s) (wv : gj_wv G m v e) : (e = 0 ↔ gt_M G (m 26 3) (m 27) 0 0 v) ∧ (¬ e < 0 ↔ ¬ s = 0) ∧ (¬ e < 0 → 1 ≤ gl_iv G m v) := by
  have X := gj_SX j
  obtain ⟨hG, t0, t8, _⟩ := gj_t j
  have hN := hG.1
  obtain ⟨P, hP, he⟩ := wv
  have p0 := gj_P_r X hP (n := 0) (i := 0) (Int.le_refl _) (by omega) (Int.le_refl _) (by omega)
  have e0 := gj_end0 X (by omega) hv.2 hP
  have en := gj_endN X t8 (by omega) hv.2 hP
  have sg := gj_nv_go j hv nv
  have ne : ¬ e < 0 ↔ P 0 0 < 16777216 := by
    rw [he]
    by_cases c : P 0 0 < 16777216
    · rw [if_pos c]
      exact ⟨fun _ => c, fun _ => by omega⟩
    · rw [if_neg c]
      exact ⟨fun y => absurd (by decide) y, fun y => absurd y c⟩
  refine ⟨?_, ne.trans (en.trans sg.symm), fun h => gj_items X t0 t8 (en.mp (ne.mp h))⟩
  rw [he]
  by_cases c : P 0 0 < 16777216
  · rw [if_pos c]
    exact e0
  · rw [if_neg c]
    exact ⟨fun y => absurd y (by decide), fun y => absurd (by have := e0.mpr y; omega) c⟩
theorem gj_facts2 (j : gj_S K u G m) (v0 : ¬ v < 0) (vz : v < m 26 3) (nv : gl_nv G m v s) (wv : gj_wv G m (v + 1) e) : gh_iand_f (gh_ishr_f s (m 27 v)) 1 = 1 ↔ ¬ e < 0 := by
  have X := gj_SX j
  obtain ⟨hG, t0, t8, tl⟩ := gj_t j
  obtain ⟨P, hP, he⟩ := wv
  obtain ⟨n1, n2⟩ := nv
  have tv := tl v (by omega) vz
  rw [gt_test (gbs_le n1 (by decide)) tv.1 (by omega), gj_ib.1, n2 _ tv.1]
  have ek := gj_endK X t8 (by omega) vz hP
  have ne : ¬ e < 0 ↔ P 0 0 < 16777216 := by
    have hN := hG.1
    have p0 := gj_P_r X hP (n := 0) (i := 0) (Int.le_refl _) (by omega) (Int.le_refl _) (by omega)
    rw [he]
    by_cases c : P 0 0 < 16777216
    · rw [if_pos c]
      exact ⟨fun _ => c, fun _ => by omega⟩
    · rw [if_neg c]
      exact ⟨fun y => absurd (by decide) y, fun y => absurd y c⟩
  rw [ne, ek]
  exact ⟨fun y => y.resolve_right (fun w => by have := w.1; omega), fun y => Or.inl y⟩
theorem gj_facts3 {r : Int} (j : gj_S K u G m) (rv : gj_rv G m r) (wv : gj_wv G m (m 26 3) e) : (r = 0 ↔ gt_M G (m 26 3) (m 27) 0 0 (m 26 3)) ∧ (r < 0 ↔ ¬ m 21 0 < 16777216) ∧ (e < 0 ∨ r ≤ e) := by
  have X := gj_SX j
  obtain ⟨hG, t0, t8, tl⟩ := gj_t j
  have hN := hG.1
  obtain ⟨P, hP, he⟩ := wv
  obtain ⟨C, hp, hb, rc⟩ := rv
  have hu := gr_U_C hG X.2.1 X.2.2.1 X.2.2.2.1 X.2.2.2.2 hp hb
  have c0 := hb 0 0 (m 26 3) (Int.le_refl _) (by omega) (Int.le_refl _) t0 (Int.le_refl _)
  have p0 := gj_P_r X hP (n := 0) (i := 0) (Int.le_refl _) (by omega) (Int.le_refl _) t0
  rcases rc with ⟨s0, hr⟩ | ⟨s0, hr⟩
  · refine ⟨?_, ⟨fun y => by omega, fun y => absurd s0 y⟩, ?_⟩
    · rw [hr]
      exact ⟨fun y => gj_C_M hG X.2.2.2.1 hp (Int.le_refl _) (by omega) (Int.le_refl _) t0 (Int.le_refl _) y, fun y => gj_M_C hG hu hb y⟩
    · by_cases c : P 0 0 < 16777216
      · rw [if_pos c] at he
        have le := gj_C_P X t8 hp hb hu hP (m 26 3).toNat 0 (Int.le_refl _) t0 (by omega) 0 (Int.le_refl _) (by omega)
        exact Or.inr (by omega)
      · rw [if_neg c] at he
        exact Or.inl (by omega)
  · refine ⟨⟨fun y => by omega, fun y => absurd (gj_lt X t8 y) s0⟩, ⟨fun _ => s0, fun _ => by omega⟩, Or.inl ?_⟩
    by_cases c : P 0 0 < 16777216
    · exact absurd (gj_PS X t8 (Int.le_refl _) hP (m 26 3).toNat 0 (Int.le_refl _) t0 (by omega) 0 (Int.le_refl _) (by omega) c) s0
    · rw [if_neg c] at he
      omega
theorem gj_letterv (j : gj_S K u G m) (v0 : ¬ v < 0) (vz : v < m 26 3) : k_House_letter v m ∧ x_House_letter v m = m 27 v := by
  have t8 := (gj_t j).2.2.1
  refine ⟨fun _ _ _ => ⟨by omega, by omega⟩, ?_⟩
  unfold x_House_letter
  rw [if_neg j.1, if_neg v0, if_pos vz]
/-- what is told of the first k letters -/
theorem gj_placeWell {Q : Int → gh_M → Prop} (j : gj_S K u G m) (hu : u ≤ 2000000) (hv : ¬ v < 0 ∧ v ≤ m 26 3) (H : ∀ m1, gj_S K (u + 81) G m1 → gj_f m m1 → Q 1 m1) : w_Law_isPlaceWell_2 v (m 26 3) m Q := by
  obtain ⟨hG, t0, t8, tl⟩ := gj_t j
  unfold w_Law_isPlaceWell_2
  refine gj_accepts j hv (fun m1 j1 f1 => gj_next j1 (by rw [f1 26 (by decide)]; exact hv) (fun m2 s j2 f2 nv => gj_end j2 (by rw [f2 26 (by decide), f1 26 (by decide)]; exact hv) (fun m3 e j3 f3 wv => ?_)))
  have f02 := gj_ft f1 f2
  have f03 := gj_ft f02 f3
  have nv := gj_nv_f f1 nv
  have wv := gj_wv_f f02 wv
  have n26 := gj_nv_26 j nv
  obtain ⟨fa, fb, fc⟩ := gj_facts j hv nv wv
  have ib := gj_ib (P := gt_M G (m 26 3) (m 27) 0 0 v)
  refine ⟨fun y m' => y = 1 ∧ gj_S K u G m' ∧ gj_f m m', fun y m4 ⟨y1, j4, f4⟩ => ?_, fun m' => gj_S K u G m' ∧ gj_f m m', fun m' h => ⟨rfl, h.1, h.2⟩, fun _ => ⟨j3, f03⟩, fun ne => ?_⟩
  · refine ⟨fun _ => False, fun _ h => False.elim h, fun _ => ⟨fun _ => ⟨fun _ => ?_, fun z => absurd ?_ z⟩, fun z => absurd ?_ z⟩, fun z => absurd ⟨by omega, n26⟩ z⟩
    · have hv4 : ¬ v < 0 ∧ v ≤ m4 26 3 := by rw [f4 26 (by decide)]; exact hv
      refine gj_makes j4 hv4 (fun m5 j5 f5 => ?_)
      have f05 := gj_ft f4 f5
      rw [f4 26 (by decide), f4 27 (by decide)]
      refine ⟨fun _ => ?_, fun z => absurd rfl z⟩
      refine gj_treesv j5 hu (by rw [f05 26 (by decide)]; exact hv) (fun m6 c j6 f6 hc => ?_)
      have f06 := gj_ft f05 f6
      rw [f05 26 (by decide), f05 27 (by decide)] at hc
      have cb := gk_C_b hG (z := m 26 3) (t := m 27) 0 0 v (fun _ => False)
      have cm := gj_trees (i := 0) (j := v) (z := m 26 3) (t := m 27) (n := 0) hG t8
      have key : (if ¬ (if c < 1000000000000000000 then c else -2) = 0 then (1 : Int) else 0) = (if gt_ib (gt_M G (m 26 3) (m 27) 0 0 v) = 1 then (1 : Int) else 0) := by
        have c0 : (if c < 1000000000000000000 then c else -2) = 0 ↔ c = 0 := by
          by_cases q : c < 1000000000000000000
          · rw [if_pos q]
          · rw [if_neg q]
            exact ⟨fun y => absurd y (by decide), fun y => absurd (by omega) q⟩
        by_cases q : gt_M G (m 26 3) (m 27) 0 0 v
        · rw [if_pos (ib.1.mpr q), if_pos (fun y => (cm.mpr q) (by rw [← hc]; exact c0.mp y))]
        · rw [if_neg (fun y => q (ib.1.mp y)), if_neg (fun y => y (c0.mpr (Classical.byContradiction (fun w => q (cm.mp (by rw [← hc]; exact w))))))]
      refine ⟨fun _ => ?_, fun z => absurd key z⟩
      refine gj_properly j6 (by rw [f06 26 (by decide)]; exact hv) (fun m7 j7 f7 => ?_)
      have f07 := gj_ft f06 f7
      rw [f06 26 (by decide), f06 27 (by decide)]
      have key2 : gt_ib (0 < v ∧ gt_M G (m 26 3) (m 27) 0 0 v) = (if v = 0 then 0 else gt_ib (gt_M G (m 26 3) (m 27) 0 0 v)) := by
        by_cases q : v = 0
        · rw [if_pos q, gt_ib_f (fun y => by have := y.1; omega)]
        · rw [if_neg q]
          exact gt_ib_cg ⟨fun y => y.2, fun y => ⟨by omega, y⟩⟩
      refine ⟨fun _ => ?_, fun z => absurd key2 z⟩
      refine gj_itemsv j7 (by rw [f07 26 (by decide)]; exact hv) (fun m8 j8 f8 => ?_)
      have f08 := gj_ft f07 f8
      rw [gj_iv_f f07]
      refine ⟨fun lt => ?_, fun _ => H m8 j8 f08⟩
      have nn : 0 ≤ gl_iv G m v := gj_items_nn
      by_cases q : ¬ e < 0
      · rw [if_pos q] at lt
        have := fc q
        omega
      · rw [if_neg q] at lt
        omega
    · by_cases q : ¬ e < 0
      · rw [if_pos q, if_pos (fb.mp q)]
      · rw [if_neg q, if_neg (fun y => q (fb.mpr y))]
    · by_cases q : e = 0
      · rw [if_pos q, if_pos (ib.1.mpr (fa.mp q))]
      · rw [if_neg q, if_neg (fun y => q (fa.mpr (ib.1.mp y)))]
  · have vz : v < m 26 3 := by omega
    have lt := gj_letterv j3 hv.1 (by rw [f03 26 (by decide)]; exact vz)
    rw [f03 27 (by decide)] at lt
    refine ⟨lt.1, ⟨by omega, by omega⟩, gj_end j3 ⟨by omega, by rw [f03 26 (by decide)]; omega⟩ (fun m4 e2 j4 f4 wv2 => ?_)⟩
    have wv2 := gj_wv_f f03 wv2
    have k2 := gj_facts2 j hv.1 vz nv wv2
    rw [lt.2]
    refine ⟨fun _ => ⟨j4, gj_ft f03 f4⟩, fun z => absurd ?_ z⟩
    by_cases q : ¬ e2 < 0
    · rw [if_pos q, if_pos (k2.mpr q)]
    · rw [if_neg q, if_neg (fun y => q (k2.mp y))]
end G33
