def f_Model_lettersIn_4 (v0 : Int) (Q : Int → Prop) (m : gh_M) (K4 : Int → Int → Prop) (v1 : Int) (v2 : Int) : Prop := ((v2 < 26 → gh_i (v1 + (gh_iand_f (gh_ishr_f v0 v2) 1)) ∧ ∀ v1' : Int, v1' = v1 + (gh_iand_f (gh_ishr_f v0 v2) 1) → gh_i (v2 + 1) ∧ K4 v1' (v2 + 1)) ∧ (¬ (v2 < 26) → Q v1))
def w_Model_lettersIn (v0 : Int) (m : gh_M) (Q : Int → Prop) : Prop := gh_L2 (fun K4 v1 v2 => f_Model_lettersIn_4 v0 Q m K4 v1 v2) 0 0
theorem b_Model_lettersIn_4 {E : gh_E} {v0 : Int} {Q : Int → Prop} {K4 : Int → Int → Prop} (d : Nat) {m : gh_M} (hK : ∀ (v1 : Int) (v2 : Int), gh_F m → K4 v1 v2 → gh_T E (gh_yModel_lettersIn.cls, prog_14_method_109_code, 3, false, 0) (d + 0) 4 [(0, 0, v0), (1, 0, v1), (2, 0, v2)] [] m (fun r m1 => m1 = m ∧ Q r)) (v1 : Int) (v2 : Int) (hF : gh_F m) (h : f_Model_lettersIn_4 v0 Q m K4 v1 v2) : gh_T E (gh_yModel_lettersIn.cls, prog_14_method_109_code, 3, false, 0) (d + 0) 4 [(0, 0, v0), (1, 0, v1), (2, 0, v2)] [] m (fun r m1 => m1 = m ∧ Q r) := by
  have hK4 := hK
  unfold f_Model_lettersIn_4 at h
  refine gh_iload_n gd_Model_lettersIn_4 2 rfl ?_
  refine gh_bipush gd_Model_lettersIn_5 (by decide) (gh_r0 rfl) ?_
  obtain ⟨hA, hB⟩ := h
  refine gh_jge (tgt := 24) gd_Model_lettersIn_7 (by decide) (fun c4522 => ?_) (fun c4522 => ?_)
  · have h := hA c4522
    refine gh_iload_n gd_Model_lettersIn_10 1 rfl ?_
    refine gh_iload_n gd_Model_lettersIn_11 0 rfl ?_
    refine gh_iload_n gd_Model_lettersIn_12 2 rfl ?_
    refine gh_ishr gd_Model_lettersIn_13 ?_
    refine gh_iconst gd_Model_lettersIn_14 (gh_r0 rfl) ?_
    refine gh_iand gd_Model_lettersIn_15 ?_
    obtain ⟨q4523, h⟩ := h
    refine gh_iadd gd_Model_lettersIn_16 q4523 ?_
    refine gh_name (fun v1' hn => ?_)
    have h := h v1' hn
    refine gh_istore_n (L2 := [(1, 0, v1'), (0, 0, v0), (2, 0, v2)]) gd_Model_lettersIn_17 (by decide) rfl ?_
    obtain ⟨q4524, h⟩ := h
    refine gh_iinc (L2 := [(2, 0, v2 + 1), (1, 0, v1'), (0, 0, v0)]) gd_Model_lettersIn_18 2 rfl q4524 (by decide) rfl ?_
    refine gh_goto (tgt := 4) gd_Model_lettersIn_21 (by decide) ?_
    refine gh_pick (L2 := [(0, 0, v0), (1, 0, v1'), (2, 0, v2 + 1)]) [2, 1, 0] rfl ?_
    exact hK4 v1' (v2 + 1) hF h
  · have h := hB c4522
    refine gh_iload_n gd_Model_lettersIn_24 1 rfl ?_
    exact gh_ret0 rfl gd_Model_lettersIn_25 ⟨rfl, h⟩
theorem s_Model_lettersIn {E : gh_E} {m : gh_M} {Q : Int → Prop} (d : Nat) (v0 : Int) (hF : gh_F m) (h : w_Model_lettersIn v0 m Q) : gh_C E gh_yModel_lettersIn prog_14_method_109_code 3 (some .int) 0 (d + 0) [(0, v0)] m (fun r m1 => m1 = m ∧ Q r) := by
  refine gh_enter2 (L := [(0, 0, v0)]) (by decide +kernel) gh_rt0 (Nat.le_of_ble_eq_true rfl) rfl rfl ?_
  unfold w_Model_lettersIn at h
  refine gh_iconst gd_Model_lettersIn_0 (gh_r0 rfl) ?_
  refine gh_istore_n (L2 := [(1, 0, 0), (0, 0, v0)]) gd_Model_lettersIn_1 (by decide) rfl ?_
  refine gh_iconst gd_Model_lettersIn_2 (gh_r0 rfl) ?_
  refine gh_istore_n (L2 := [(2, 0, 0), (1, 0, 0), (0, 0, v0)]) gd_Model_lettersIn_3 (by decide) rfl ?_
  refine gh_pick (L2 := [(0, 0, v0), (1, 0, 0), (2, 0, 0)]) [2, 1, 0] rfl ?_
  exact gh_L2_sound (T := fun v1 v2 => gh_T E (gh_yModel_lettersIn.cls, prog_14_method_109_code, 3, false, 0) (d + 0) 4 [(0, 0, v0), (1, 0, v1), (2, 0, v2)] [] m (fun r m1 => m1 = m ∧ Q r)) (fun _ _ => gh_F m) (fun K4 v1 v2 hK hF h => b_Model_lettersIn_4 d hK v1 v2 hF h) 0 0 hF h
def f_Model_letterOf_4 (v0 : Int) (J16 : Prop) (Q : Int → Prop) (m : gh_M) (K4 : Int → Int → Prop) (v2 : Int) (v3 : Int) : Prop := ∃ J16 : Prop, (J16 → gh_i (v3 - (gh_iand_f (gh_ishr_f v0 v2) 1)) ∧ ∀ v3' : Int, v3' = v3 - (gh_iand_f (gh_ishr_f v0 v2) 1) → gh_i (v2 + 1) ∧ K4 (v2 + 1) v3') ∧ (((¬ ((gh_iand_f (gh_ishr_f v0 v2) 1) = 0) ∧ (v3 ≤ 0)) → Q v2) ∧ (¬ (¬ ((gh_iand_f (gh_ishr_f v0 v2) 1) = 0) ∧ (v3 ≤ 0)) → J16))
def w_Model_letterOf (v0 : Int) (v1 : Int) (m : gh_M) (Q : Int → Prop) : Prop := gh_L2 (fun K4 v2 v3 => f_Model_letterOf_4 v0 J16 Q m K4 v2 v3) 0 v1
theorem b_Model_letterOf_4 {E : gh_E} {v0 : Int} {J16 : Prop} {Q : Int → Prop} {K4 : Int → Int → Prop} (d : Nat) {m : gh_M} (hJ16 : gh_F m → J16 → gh_T E (gh_yModel_letterOf.cls, prog_14_method_110_code, 4, false, 0) (d + 0) 16 [(0, 0, v0), (2, 0, v2), (3, 0, v3)] [] m (fun r m1 => m1 = m ∧ Q r)) (hK : ∀ (v2 : Int) (v3 : Int), gh_F m → K4 v2 v3 → gh_T E (gh_yModel_letterOf.cls, prog_14_method_110_code, 4, false, 0) (d + 0) 4 [(0, 0, v0), (2, 0, v2), (3, 0, v3)] [] m (fun r m1 => m1 = m ∧ Q r)) (v2 : Int) (v3 : Int) (hF : gh_F m) (h : f_Model_letterOf_4 v0 J16 Q m K4 v2 v3) : gh_T E (gh_yModel_letterOf.cls, prog_14_method_110_code, 4, false, 0) (d + 0) 4 [(0, 0, v0), (2, 0, v2), (3, 0, v3)] [] m (fun r m1 => m1 = m ∧ Q r) := by
  have hK4 := hK
  unfold f_Model_letterOf_4 at h
  refine gh_iload_n gd_Model_letterOf_4 0 rfl ?_
  refine gh_iload_n gd_Model_letterOf_5 1 rfl ?_
  refine gh_ishr gd_Model_letterOf_6 ?_
  refine gh_iconst gd_Model_letterOf_7 (gh_r0 rfl) ?_
  refine gh_iand gd_Model_letterOf_8 ?_
  obtain ⟨J16, hJ16, h⟩ := h
  have hJ16 : gh_F m → J16 → gh_T E (gh_yModel_letterOf.cls, prog_14_method_110_code, 4, false, 0) (d + 0) 16 [(0, 0, v0), (2, 0, v2), (3, 0, v3)] [] m (fun r m1 => m1 = m ∧ Q r) := by
    intro hF hj
    have h := hJ16 hj
    refine gh_iload_n gd_Model_letterOf_16 2 rfl ?_
    refine gh_iload_n gd_Model_letterOf_17 0 rfl ?_
    refine gh_iload_n gd_Model_letterOf_18 1 rfl ?_
    refine gh_ishr gd_Model_letterOf_19 ?_
    refine gh_iconst gd_Model_letterOf_20 (gh_r0 rfl) ?_
    refine gh_iand gd_Model_letterOf_21 ?_
    obtain ⟨q4525, h⟩ := h
    refine gh_isub gd_Model_letterOf_22 q4525 ?_
    refine gh_name (fun v3' hn => ?_)
    have h := h v3' hn
    refine gh_istore_n (L2 := [(3, 0, v3'), (0, 0, v0), (2, 0, v2)]) gd_Model_letterOf_23 (by decide) rfl ?_
    obtain ⟨q4526, h⟩ := h
    refine gh_iinc (L2 := [(2, 0, v2 + 1), (3, 0, v3'), (0, 0, v0)]) gd_Model_letterOf_24 2 rfl q4526 (by decide) rfl ?_
    refine gh_goto (tgt := 4) gd_Model_letterOf_27 (by decide) ?_
    refine gh_pick (L2 := [(0, 0, v0), (2, 0, v2 + 1), (3, 0, v3')]) [2, 0, 1] rfl ?_
    exact hK4 (v2 + 1) v3' hF h
  obtain ⟨hA, hB⟩ := h
  have k4527 : (¬ ((gh_iand_f (gh_ishr_f v0 v2) 1) = 0) ∧ (v3 ≤ 0)) → gh_T E (gh_yModel_letterOf.cls, prog_14_method_110_code, 4, false, 0) (d + 0) 30 [(0, 0, v0), (2, 0, v2), (3, 0, v3)] [] m (fun r m1 => m1 = m ∧ Q r) := by
    intro c
    have h := hA c
    refine gh_iload_n gd_Model_letterOf_30 1 rfl ?_
    exact gh_ret0 rfl gd_Model_letterOf_31 ⟨rfl, h⟩
  have k4528 : ¬ (¬ ((gh_iand_f (gh_ishr_f v0 v2) 1) = 0) ∧ (v3 ≤ 0)) → gh_T E (gh_yModel_letterOf.cls, prog_14_method_110_code, 4, false, 0) (d + 0) 16 [(0, 0, v0), (2, 0, v2), (3, 0, v3)] [] m (fun r m1 => m1 = m ∧ Q r) := by
    intro c
    have h := hB c
    exact hJ16 hF h
  refine gh_zeq (tgt := 16) gd_Model_letterOf_9 (by decide) (fun c4529 => ?_) (fun c4529 => ?_)
  · have hz : True := trivial
    exact k4528 (fun z => z.1 c4529)
  · have hz : True := trivial
    refine gh_iload_n gd_Model_letterOf_12 2 rfl ?_
    refine gh_zle (tgt := 30) gd_Model_letterOf_13 (by decide) (fun c4530 => ?_) (fun c4530 => ?_)
    · have hz : True := trivial
      exact k4527 ⟨c4529, c4530⟩
    · have hz : True := trivial
      exact k4528 (fun z => c4530 z.2)
theorem s_Model_letterOf {E : gh_E} {m : gh_M} {Q : Int → Prop} (d : Nat) (v0 : Int) (v1 : Int) (hF : gh_F m) (h : w_Model_letterOf v0 v1 m Q) : gh_C E gh_yModel_letterOf prog_14_method_110_code 4 (some .int) 0 (d + 0) [(0, v0), (0, v1)] m (fun r m1 => m1 = m ∧ Q r) := by
  refine gh_enter2 (L := [(0, 0, v0), (1, 0, v1)]) (by decide +kernel) gh_rt0 (Nat.le_of_ble_eq_true rfl) rfl rfl ?_
  unfold w_Model_letterOf at h
  refine gh_iconst gd_Model_letterOf_0 (gh_r0 rfl) ?_
  refine gh_istore_n (L2 := [(2, 0, 0), (0, 0, v0), (1, 0, v1)]) gd_Model_letterOf_1 (by decide) rfl ?_
  refine gh_iload_n gd_Model_letterOf_2 2 rfl ?_
  refine gh_istore_n (L2 := [(3, 0, v1), (2, 0, 0), (0, 0, v0), (1, 0, v1)]) gd_Model_letterOf_3 (by decide) rfl ?_
  refine gh_pick (L2 := [(0, 0, v0), (2, 0, 0), (3, 0, v1)]) [2, 1, 0] rfl ?_
  exact gh_L2_sound (T := fun v2 v3 => gh_T E (gh_yModel_letterOf.cls, prog_14_method_110_code, 4, false, 0) (d + 0) 4 [(0, 0, v0), (2, 0, v2), (3, 0, v3)] [] m (fun r m1 => m1 = m ∧ Q r)) (fun _ _ => gh_F m) (fun K4 v2 v3 hK hF h => b_Model_letterOf_4 d hJ16 hK v2 v3 hF h) 0 v1 hF h
def f_Model_drawText_16 (Q : Int → gh_M → Prop) (K16 : Int → Int → gh_M → Prop) (v1 : Int) (v2 : Int) (m : gh_M) : Prop := ((v1 < (m 63 82) → ((v2 = 60 → Q (-1) m) ∧ (¬ (v2 = 60) → gh_i (v2 + 1) ∧ 0 ≤ v1 ∧ v1 < 300 ∧ ∀ v3 : Int, v3 = m 117 v1 → ∃ J101 : Int → gh_M → Prop, (∀ (v1' : Int) (m : gh_M), J101 v1' m → K16 v1' (v2 + 1) m) ∧ ((v3 < 0 → gh_i ((-1) - v3) ∧ gh_i ((-1) - v3) ∧ w_Model_usefulRulesOf ((-1) - v3) m (fun r4539 => w_Model_draw r4539 m (fun r4541 m4542 => w_Model_usefulRuleOf ((-1) - v3) r4541 m4542 (fun r4543 => w_Model_replaceBy v1 r4543 m4542 (fun _ m4546 => J101 v1 m4546))))) ∧ (¬ (v3 < 0) → w_Model_lettersIn v3 m (fun r4547 => w_Model_draw r4547 m (fun r4549 m4550 => w_Model_letterOf v3 r4549 m4550 (fun r4551 => 0 ≤ v1 ∧ v1 < 300 ∧ gh_i (v1 + 1) ∧ (((v1 + 1) ≤ 8 → J101 (v1 + 1) (gh_u m4550 117 v1 r4551)) ∧ (¬ ((v1 + 1) ≤ 8) → Q (-1) (gh_u m4550 117 v1 r4551))))))))))) ∧ (¬ (v1 < (m 63 82)) → Q v1 m))
def w_Model_drawText (m : gh_M) (Q : Int → gh_M → Prop) : Prop := gh_M2 (fun K16 v1 v2 m => f_Model_drawText_16 Q K16 v1 v2 m) 0 0 (gh_u (gh_u m 117 0 (-1)) 63 82 1)
theorem b_Model_drawText_16 {E : gh_E} {Q : Int → gh_M → Prop} {K16 : Int → Int → gh_M → Prop} (d : Nat) (hK : ∀ (v1 : Int) (v2 : Int) (m : gh_M), gh_F m → K16 v1 v2 m → gh_T E (gh_yModel_drawText.cls, prog_14_method_111_code, 4, false, 0) (d + 1) 16 [(0, 2, 63), (1, 0, v1), (2, 0, v2)] [] m (fun r m1 => gh_F m1 ∧ Q r m1)) (v1 : Int) (v2 : Int) (m : gh_M) (hF : gh_F m) (h : f_Model_drawText_16 Q K16 v1 v2 m) : gh_T E (gh_yModel_drawText.cls, prog_14_method_111_code, 4, false, 0) (d + 1) 16 [(0, 2, 63), (1, 0, v1), (2, 0, v2)] [] m (fun r m1 => gh_F m1 ∧ Q r m1) := by
  have hK16 := hK
  unfold f_Model_drawText_16 at h
  refine gh_iload_n gd_Model_drawText_16 1 rfl ?_
  refine gh_aload_n gd_Model_drawText_17 0 rfl (by decide) ?_
  refine gf_63_82 gd_Model_drawText_18 gh_k1450 hF rfl ?_
  obtain ⟨hA, hB⟩ := h
  refine gh_jge (tgt := 104) gd_Model_drawText_21 (by decide) (fun c4531 => ?_) (fun c4531 => ?_)
  · have h := hA c4531
    refine gh_iload_n gd_Model_drawText_24 2 rfl ?_
    refine gh_bipush gd_Model_drawText_25 (by decide) (gh_r0 rfl) ?_
    obtain ⟨hA, hB⟩ := h
    refine gh_jne (tgt := 32) gd_Model_drawText_27 (by decide) (fun c4532 => ?_) (fun c4532 => ?_)
    · have h := hA c4532
      refine gh_iconst gd_Model_drawText_30 (gh_r0 rfl) ?_
      exact gh_ret0 rfl gd_Model_drawText_31 ⟨hF, h⟩
    · have h := hB c4532
      obtain ⟨q4533, h⟩ := h
      refine gh_iinc (L2 := [(2, 0, v2 + 1), (0, 2, 63), (1, 0, v1)]) gd_Model_drawText_32 2 rfl q4533 (by decide) rfl ?_
      refine gh_aload_n gd_Model_drawText_35 1 rfl (by decide) ?_
      refine gf_63_81 gd_Model_drawText_36 gh_k1449 hF ?_
      refine gh_iload_n gd_Model_drawText_39 2 rfl ?_
      obtain ⟨q4534, h⟩ := h
      obtain ⟨q4535, h⟩ := h
      refine la_117 gd_Model_drawText_40 hF q4534 q4535 rfl ?_
      refine gh_name (fun v3 hn => ?_)
      have h := h v3 hn
      refine gh_istore_n (L2 := [(3, 0, v3), (2, 0, v2 + 1), (0, 2, 63), (1, 0, v1)]) gd_Model_drawText_41 (by decide) rfl ?_
      refine gh_iload_n gd_Model_drawText_42 0 rfl ?_
      obtain ⟨J101, hJ101, h⟩ := h
      have hJ101 : ∀ (v1' : Int) (m : gh_M), gh_F m → J101 v1' m → gh_T E (gh_yModel_drawText.cls, prog_14_method_111_code, 4, false, 0) (d + 1) 101 [(0, 2, 63), (1, 0, v1'), (2, 0, v2 + 1)] [] m (fun r m1 => gh_F m1 ∧ Q r m1) := by
        intro v1' m hF hj
        have h := hJ101 v1' m hj
        refine gh_goto (tgt := 16) gd_Model_drawText_101 (by decide) ?_
        exact hK16 v1' (v2 + 1) m hF h
      obtain ⟨hA, hB⟩ := h
      refine gh_zge (tgt := 72) gd_Model_drawText_43 (by decide) (fun c4536 => ?_) (fun c4536 => ?_)
      · have h := hA c4536
        refine gh_aload_n gd_Model_drawText_46 2 rfl (by decide) ?_
        refine gh_iload_n gd_Model_drawText_47 3 rfl ?_
        refine gh_aload_n gd_Model_drawText_48 2 rfl (by decide) ?_
        refine gh_iconst gd_Model_drawText_49 (gh_r0 rfl) ?_
        refine gh_iload_n gd_Model_drawText_50 0 rfl ?_
        obtain ⟨q4537, h⟩ := h
        refine gh_isub gd_Model_drawText_51 q4537 ?_
        refine gh_aload_n gd_Model_drawText_52 2 rfl (by decide) ?_
        refine gh_aload_n gd_Model_drawText_53 2 rfl (by decide) ?_
        refine gh_iconst gd_Model_drawText_54 (gh_r0 rfl) ?_
        refine gh_iload_n gd_Model_drawText_55 0 rfl ?_
        obtain ⟨q4538, h⟩ := h
        refine gh_isub gd_Model_drawText_56 q4538 ?_
        refine cv_Model_usefulRulesOf (d := d) gd_Model_drawText_57 gh_k2044 hF (Nat.le_of_ble_eq_true rfl) (gh_C.pw (s_Model_usefulRulesOf d ((-1) - v3) hF h) (fun r4539 h => ?_))
        refine cv_Model_draw (d := d) gd_Model_drawText_60 gh_k2048 hF (Nat.le_of_ble_eq_true rfl) (gh_C.mono (s_Model_draw d r4539 hF h) (fun r4541 m4542 hq => ?_))
        obtain ⟨hF, h⟩ := hq
        refine cv_Model_usefulRuleOf (d := d) gd_Model_drawText_63 gh_k2053 hF (Nat.le_of_ble_eq_true rfl) (gh_C.pw (s_Model_usefulRuleOf d ((-1) - v3) r4541 hF h) (fun r4543 h => ?_))
        refine cv_Model_replaceBy (d := d) gd_Model_drawText_66 gh_k2057 hF (Nat.le_of_ble_eq_true rfl) (gh_C.mono (s_Model_replaceBy d v1 r4543 hF h) (fun r4545 m4546 hq => ?_))
        obtain ⟨hF, h⟩ := hq
        refine gh_goto (tgt := 101) gd_Model_drawText_69 (by decide) ?_
        refine gh_pick (L2 := [(0, 2, 63), (1, 0, v1), (2, 0, v2 + 1)]) [2, 3, 1] rfl ?_
        exact hJ101 v1 m4546 hF h
      · have h := hB c4536
        refine gh_aload_n gd_Model_drawText_72 2 rfl (by decide) ?_
        refine gf_63_81 gd_Model_drawText_73 gh_k1449 hF ?_
        refine gh_iload_n gd_Model_drawText_76 3 rfl ?_
        refine gh_iload_n gd_Model_drawText_77 0 rfl ?_
        refine gh_aload_n gd_Model_drawText_78 2 rfl (by decide) ?_
        refine gh_iload_n gd_Model_drawText_79 0 rfl ?_
        refine cv_Model_lettersIn (d := d) gd_Model_drawText_80 gh_k2061 (Nat.le_of_ble_eq_true rfl) (gh_C.pw (s_Model_lettersIn d v3 hF h) (fun r4547 h => ?_))
        refine cv_Model_draw (d := d) gd_Model_drawText_83 gh_k2048 hF (Nat.le_of_ble_eq_true rfl) (gh_C.mono (s_Model_draw d r4547 hF h) (fun r4549 m4550 hq => ?_))
        obtain ⟨hF, h⟩ := hq
        refine cv_Model_letterOf (d := d) gd_Model_drawText_86 gh_k2064 (Nat.le_of_ble_eq_true rfl) (gh_C.pw (s_Model_letterOf d v3 r4549 hF h) (fun r4551 h => ?_))
        obtain ⟨q4553, h⟩ := h
        obtain ⟨q4554, h⟩ := h
        refine sa_117 gd_Model_drawText_89 hF q4553 q4554 (fun hF => ?_)
        obtain ⟨q4555, h⟩ := h
        refine gh_iinc (L2 := [(1, 0, v1 + 1), (3, 0, v3), (2, 0, v2 + 1), (0, 2, 63)]) gd_Model_drawText_90 3 rfl q4555 (by decide) rfl ?_
        refine gh_iload_n gd_Model_drawText_93 0 rfl ?_
        refine gh_bipush gd_Model_drawText_94 (by decide) (gh_r0 rfl) ?_
        obtain ⟨hA, hB⟩ := h
        refine gh_jle (tgt := 101) gd_Model_drawText_96 (by decide) (fun c4556 => ?_) (fun c4556 => ?_)
        · have h := hA c4556
          refine gh_pick (L2 := [(0, 2, 63), (1, 0, v1 + 1), (2, 0, v2 + 1)]) [3, 0, 2] rfl ?_
          exact hJ101 (v1 + 1) (gh_u m4550 117 v1 r4551) hF h
        · have h := hB c4556
          refine gh_iconst gd_Model_drawText_99 (gh_r0 rfl) ?_
          exact gh_ret0 rfl gd_Model_drawText_100 ⟨hF, h⟩
  · have h := hB c4531
    refine gh_iload_n gd_Model_drawText_104 1 rfl ?_
    exact gh_ret0 rfl gd_Model_drawText_105 ⟨hF, h⟩
theorem s_Model_drawText {E : gh_E} {m : gh_M} {Q : Int → gh_M → Prop} (d : Nat) (hF : gh_F m) (h : w_Model_drawText m Q) : gh_C E gh_yModel_drawText prog_14_method_111_code 4 (some .int) 0 (d + 1) [(2, 63)] m (fun r m1 => gh_F m1 ∧ Q r m1) := by
  refine gh_enter2 (L := [(0, 2, 63)]) (by decide +kernel) gh_rt0 (Nat.le_of_ble_eq_true rfl) rfl rfl ?_
  unfold w_Model_drawText at h
  refine gh_aload_n gd_Model_drawText_0 0 rfl (by decide) ?_
  refine gf_63_81 gd_Model_drawText_1 gh_k1449 hF ?_
  refine gh_iconst gd_Model_drawText_4 (gh_r0 rfl) ?_
  refine gh_iconst gd_Model_drawText_5 (gh_r0 rfl) ?_
  refine sa_117 gd_Model_drawText_6 hF (by decide) (by decide) (fun hF => ?_)
  refine gh_aload_n gd_Model_drawText_7 0 rfl (by decide) ?_
  refine gh_iconst gd_Model_drawText_8 (gh_r0 rfl) ?_
  refine pf_63_82 gd_Model_drawText_9 gh_k1450 hF (fun hF => ?_)
  refine gh_iconst gd_Model_drawText_12 (gh_r0 rfl) ?_
  refine gh_istore_n (L2 := [(1, 0, 0), (0, 2, 63)]) gd_Model_drawText_13 (by decide) rfl ?_
  refine gh_iconst gd_Model_drawText_14 (gh_r0 rfl) ?_
  refine gh_istore_n (L2 := [(2, 0, 0), (1, 0, 0), (0, 2, 63)]) gd_Model_drawText_15 (by decide) rfl ?_
  refine gh_pick (L2 := [(0, 2, 63), (1, 0, 0), (2, 0, 0)]) [2, 1, 0] rfl ?_
  exact gh_M2_sound (T := fun v1 v2 m => gh_T E (gh_yModel_drawText.cls, prog_14_method_111_code, 4, false, 0) (d + 1) 16 [(0, 2, 63), (1, 0, v1), (2, 0, v2)] [] m (fun r m1 => gh_F m1 ∧ Q r m1)) (fun _ _ m => gh_F m) (fun K16 v1 v2 m hK hF h => b_Model_drawText_16 d hK v1 v2 m hF h) 0 0 (gh_u (gh_u m 117 0 (-1)) 63 82 1) hF h
def f_Model_made_66 (Q : Int → gh_M → Prop) (K66 : Int → gh_M → Prop) (v3 : Int) (m : gh_M) : Prop := ((v3 < (m 63 50) → 0 ≤ v3 ∧ v3 < 300 ∧ 0 ≤ v3 ∧ v3 < 8 ∧ gh_i (v3 + 1) ∧ K66 (v3 + 1) (gh_u m 96 v3 (m 117 v3))) ∧ (¬ (v3 < (m 63 50)) → w_Model_changed m (fun _ m4567 => Q (m4567 63 50) m4567)))
def w_Model_made (v1 : Int) (m : gh_M) (Q : Int → gh_M → Prop) : Prop := (((¬ (v1 < 0) ∧ (v1 ≤ 65535)) → (((m 63 24) = 0 → Q (-1003) m) ∧ (¬ ((m 63 24) = 0) → ∃ J51 : Int → gh_M → Prop, (∀ (y0 : Int) (m : gh_M), J51 y0 m → ((y0 = (-1) → Q (-1) m) ∧ (¬ (y0 = (-1)) → gh_M1 (fun K66 v3 m => f_Model_made_66 Q K66 v3 m) 0 (gh_u m 63 50 y0)))) ∧ (((m 82 0) < 1000000000 → w_Model_drawText (gh_u m 63 83 v1) (fun r4569 m4570 => J51 r4569 m4570)) ∧ (¬ ((m 82 0) < 1000000000) → J51 (-1) (gh_u m 63 83 v1)))))) ∧ (¬ ((¬ (v1 < 0) ∧ (v1 ≤ 65535))) → Q (-1002) m))
theorem b_Model_made_66 {E : gh_E} {Q : Int → gh_M → Prop} {K66 : Int → gh_M → Prop} (d : Nat) (hK : ∀ (v3 : Int) (m : gh_M), gh_F m → K66 v3 m → gh_T E (gh_yModel_made.cls, prog_14_method_112_code, 4, false, 0) (d + 2) 66 [(0, 2, 63), (3, 0, v3)] [] m (fun r m1 => gh_F m1 ∧ Q r m1)) (v3 : Int) (m : gh_M) (hF : gh_F m) (h : f_Model_made_66 Q K66 v3 m) : gh_T E (gh_yModel_made.cls, prog_14_method_112_code, 4, false, 0) (d + 2) 66 [(0, 2, 63), (3, 0, v3)] [] m (fun r m1 => gh_F m1 ∧ Q r m1) := by
  have hK66 := hK
  unfold f_Model_made_66 at h
  refine gh_iload_n gd_Model_made_66 1 rfl ?_
  refine gh_aload_n gd_Model_made_67 0 rfl (by decide) ?_
  refine gf_63_50 gd_Model_made_68 gh_k1418 hF rfl ?_
  obtain ⟨hA, hB⟩ := h
  refine gh_jge (tgt := 92) gd_Model_made_71 (by decide) (fun c4560 => ?_) (fun c4560 => ?_)
  · have h := hA c4560
    refine gh_aload_n gd_Model_made_74 0 rfl (by decide) ?_
    refine gf_63_51 gd_Model_made_75 gh_k1419 hF ?_
    refine gh_iload_n gd_Model_made_78 1 rfl ?_
    refine gh_aload_n gd_Model_made_79 0 rfl (by decide) ?_
    refine gf_63_81 gd_Model_made_80 gh_k1449 hF ?_
    refine gh_iload_n gd_Model_made_83 1 rfl ?_
    obtain ⟨q4561, h⟩ := h
    obtain ⟨q4562, h⟩ := h
    refine la_117 gd_Model_made_84 hF q4561 q4562 rfl ?_
    obtain ⟨q4563, h⟩ := h
    obtain ⟨q4564, h⟩ := h
    refine sa_96 gd_Model_made_85 hF q4563 q4564 (fun hF => ?_)
    obtain ⟨q4565, h⟩ := h
    refine gh_iinc (L2 := [(3, 0, v3 + 1), (0, 2, 63)]) gd_Model_made_86 1 rfl q4565 (by decide) rfl ?_
    refine gh_goto (tgt := 66) gd_Model_made_89 (by decide) ?_
    refine gh_pick (L2 := [(0, 2, 63), (3, 0, v3 + 1)]) [1, 0] rfl ?_
    exact hK66 (v3 + 1) (gh_u m 96 v3 (m 117 v3)) hF h
  · have h := hB c4560
    refine gh_aload_n gd_Model_made_92 0 rfl (by decide) ?_
    refine cv_Model_changed (d := d + 1) gd_Model_made_93 gh_k1802 hF (Nat.le_of_ble_eq_true rfl) (gh_C.mono (s_Model_changed (d + 1) hF h) (fun r4566 m4567 hq => ?_))
    obtain ⟨hF, h⟩ := hq
    refine gh_aload_n gd_Model_made_96 0 rfl (by decide) ?_
    refine gf_63_50 gd_Model_made_97 gh_k1418 hF rfl ?_
    exact gh_ret0 rfl gd_Model_made_100 ⟨hF, h⟩
theorem s_Model_made {E : gh_E} {m : gh_M} {Q : Int → gh_M → Prop} (d : Nat) (v1 : Int) (hF : gh_F m) (h : w_Model_made v1 m Q) : gh_C E gh_yModel_made prog_14_method_112_code 4 (some .int) 0 (d + 2) [(2, 63), (0, v1)] m (fun r m1 => gh_F m1 ∧ Q r m1) := by
  refine gh_enter2 (L := [(0, 2, 63), (1, 0, v1)]) (by decide +kernel) gh_rt0 (Nat.le_of_ble_eq_true rfl) rfl rfl ?_
  unfold w_Model_made at h
  refine gh_iload_n gd_Model_made_0 1 rfl ?_
  refine gh_iconst gd_Model_made_1 (gh_r0 rfl) ?_
  refine gh_ldcw (n := 65535) gd_Model_made_2 gh_k2039 (by decide) (gh_r0 rfl) ?_
  refine cv_Model_in (d := d + 1) gd_Model_made_5 gh_k1629 (Nat.le_of_ble_eq_true rfl) (gh_C.pe (e_Model_in (d + 1) v1 0 65535) ?_)
  obtain ⟨hA, hB⟩ := h
  refine gh_bne (tgt := 15) gd_Model_made_8 (by decide) (fun c4557 => ?_) (fun c4557 => ?_)
  · have h := hA c4557
    refine gh_aload_n gd_Model_made_15 0 rfl (by decide) ?_
    refine gf_63_24 gd_Model_made_16 gh_k1392 hF rfl ?_
    obtain ⟨hA, hB⟩ := h
    refine gh_zne (tgt := 26) gd_Model_made_19 (by decide) (fun c4558 => ?_) (fun c4558 => ?_)
    · have h := hA c4558
      refine gh_sipush gd_Model_made_22 (by decide) (gh_r0 rfl) ?_
      exact gh_ret0 rfl gd_Model_made_25 ⟨hF, h⟩
    · have h := hB c4558
      refine gh_aload_n gd_Model_made_26 0 rfl (by decide) ?_
      refine gh_iload_n gd_Model_made_27 1 rfl ?_
      refine pf_63_83 gd_Model_made_28 gh_k1451 hF (fun hF => ?_)
      refine gh_aload_n gd_Model_made_31 0 rfl (by decide) ?_
      refine gf_63_35 gd_Model_made_32 gh_k1403 hF ?_
      refine gh_iconst gd_Model_made_35 (gh_r0 rfl) ?_
      refine la_82 gd_Model_made_36 hF (by decide) (by decide) (gh_u_a (by decide)) ?_
      refine gh_ldcw (n := 1000000000) gd_Model_made_37 gh_k1742 (by decide) (gh_r0 rfl) ?_
      obtain ⟨J51, hJ51, h⟩ := h
      have hJ51 : ∀ (y0 : Int) (m : gh_M), gh_F m → J51 y0 m → gh_T E (gh_yModel_made.cls, prog_14_method_112_code, 4, false, 0) (d + 2) 51 [(0, 2, 63)] [(0, (-1)), (0, y0)] m (fun r m1 => gh_F m1 ∧ Q r m1) := by
        intro y0 m hF hj
        have h := hJ51 y0 m hj
        refine gh_istore_n (L2 := [(2, 0, y0), (0, 2, 63)]) gd_Model_made_51 (by decide) rfl ?_
        refine gh_iload_n gd_Model_made_52 0 rfl ?_
        refine gh_iconst gd_Model_made_53 (gh_r0 rfl) ?_
        obtain ⟨hA, hB⟩ := h
        refine gh_jne (tgt := 59) gd_Model_made_54 (by decide) (fun c4559 => ?_) (fun c4559 => ?_)
        · have h := hA c4559
          refine gh_iconst gd_Model_made_57 (gh_r0 rfl) ?_
          exact gh_ret0 rfl gd_Model_made_58 ⟨hF, h⟩
        · have h := hB c4559
          refine gh_aload_n gd_Model_made_59 1 rfl (by decide) ?_
          refine gh_iload_n gd_Model_made_60 0 rfl ?_
          refine pf_63_50 gd_Model_made_61 gh_k1418 hF (fun hF => ?_)
          refine gh_iconst gd_Model_made_64 (gh_r0 rfl) ?_
          refine gh_istore_n (L2 := [(3, 0, 0), (2, 0, y0), (0, 2, 63)]) gd_Model_made_65 (by decide) rfl ?_
          refine gh_pick (L2 := [(0, 2, 63), (3, 0, 0)]) [2, 0] rfl ?_
          exact gh_M1_sound (T := fun v3 m => gh_T E (gh_yModel_made.cls, prog_14_method_112_code, 4, false, 0) (d + 2) 66 [(0, 2, 63), (3, 0, v3)] [] m (fun r m1 => gh_F m1 ∧ Q r m1)) (fun _ m => gh_F m) (fun K66 v3 m hK hF h => b_Model_made_66 d hK v3 m hF h) 0 (gh_u m 63 50 y0) hF h
      obtain ⟨hA, hB⟩ := h
      refine gh_jge (tgt := 50) gd_Model_made_40 (by decide) (fun c4568 => ?_) (fun c4568 => ?_)
      · have h := hA c4568
        refine gh_aload_n gd_Model_made_43 0 rfl (by decide) ?_
        refine cv_Model_drawText (d := d + 1) gd_Model_made_44 gh_k2040 hF (Nat.le_of_ble_eq_true rfl) (gh_C.mono (s_Model_drawText d hF h) (fun r4569 m4570 hq => ?_))
        obtain ⟨hF, h⟩ := hq
        refine gh_goto (tgt := 51) gd_Model_made_47 (by decide) ?_
        refine gh_pick (L2 := [(0, 2, 63)]) [0] rfl ?_
        exact hJ51 r4569 m4570 hF h
      · have h := hB c4568
        refine gh_iconst gd_Model_made_50 (gh_r0 rfl) ?_
        refine gh_pick (L2 := [(0, 2, 63)]) [0] rfl ?_
        exact hJ51 (-1) (gh_u m 63 83 v1) hF h
  · have h := hB c4557
    refine gh_sipush gd_Model_made_11 (by decide) (gh_r0 rfl) ?_
    exact gh_ret0 rfl gd_Model_made_14 ⟨hF, h⟩
def f_Model_hashNames_17 (v5 : Int) (K5 : Int → Int → Prop) (m : gh_M) (K17 : Int → Int → Prop) (v3 : Int) (v6 : Int) : Prop := ((v6 < 8 → w_Model_name v5 v6 m (fun r4573 => ∀ v3' : Int, v3' = x_Model_hash v3 r4573 → gh_i (v6 + 1) ∧ K17 v3' (v6 + 1))) ∧ (¬ (v6 < 8) → 0 ≤ v5 ∧ v5 < 8 ∧ 0 ≤ v5 ∧ v5 < 8 ∧ ∀ v3' : Int, v3' = x_Model_hash (x_Model_hash v3 (m 86 v5)) (m 87 v5) → gh_i (v5 + 1) ∧ K5 v3' (v5 + 1)))
def f_Model_hashNames_5 (Q : Int → Prop) (m : gh_M) (K5 : Int → Int → Prop) (v3 : Int) (v5 : Int) : Prop := ((v5 < (m 63 26) → gh_L2 (fun K17 v3 v6 => f_Model_hashNames_17 v5 K5 m K17 v3 v6) v3 0) ∧ (¬ (v5 < (m 63 26)) → Q v3))
def w_Model_hashNames (v1 : Int) (m : gh_M) (Q : Int → Prop) : Prop := gh_L2 (fun K5 v3 v5 => f_Model_hashNames_5 Q m K5 v3 v5) v1 0
theorem b_Model_hashNames_17 {E : gh_E} {v5 : Int} {K5 : Int → Int → Prop} {Q : Int → Prop} {K17 : Int → Int → Prop} (d : Nat) {m : gh_M} (hK5 : ∀ (v3 : Int) (v5 : Int), gh_F m → K5 v3 v5 → gh_T E (gh_yModel_hashNames.cls, prog_14_method_114_code, 7, false, 1) (d + 3) 5 [(0, 2, 63), (3, 1, v3), (5, 0, v5)] [] m (fun r m1 => m1 = m ∧ Q r)) (hK : ∀ (v3 : Int) (v6 : Int), gh_F m → K17 v3 v6 → gh_T E (gh_yModel_hashNames.cls, prog_14_method_114_code, 7, false, 1) (d + 3) 17 [(0, 2, 63), (3, 1, v3), (5, 0, v5), (6, 0, v6)] [] m (fun r m1 => m1 = m ∧ Q r)) (v3 : Int) (v6 : Int) (hF : gh_F m) (h : f_Model_hashNames_17 v5 K5 m K17 v3 v6) : gh_T E (gh_yModel_hashNames.cls, prog_14_method_114_code, 7, false, 1) (d + 3) 17 [(0, 2, 63), (3, 1, v3), (5, 0, v5), (6, 0, v6)] [] m (fun r m1 => m1 = m ∧ Q r) := by
  have hK17 := hK
  unfold f_Model_hashNames_17 at h
  refine gh_iload gd_Model_hashNames_17 3 rfl ?_
  refine gh_bipush gd_Model_hashNames_19 (by decide) (gh_r0 rfl) ?_
  obtain ⟨hA, hB⟩ := h
  refine gh_jge (tgt := 44) gd_Model_hashNames_21 (by decide) (fun c4572 => ?_) (fun c4572 => ?_)
  · have h := hA c4572
    refine gh_lload_n gd_Model_hashNames_24 1 rfl ?_
    refine gh_aload_n gd_Model_hashNames_25 0 rfl (by decide) ?_
    refine gh_iload gd_Model_hashNames_26 2 rfl ?_
    refine gh_iload gd_Model_hashNames_28 3 rfl ?_
    refine cv_Model_name (d := d + 2) gd_Model_hashNames_30 gh_k2081 hF (Nat.le_of_ble_eq_true rfl) (gh_C.pw (s_Model_name d v5 v6 hF h) (fun r4573 h => ?_))
    refine gh_i2l gd_Model_hashNames_33 ?_
    refine cv_Model_hash (d := d + 2) gd_Model_hashNames_34 gh_k2072 (Nat.le_of_ble_eq_true rfl) (gh_C.pe (e_Model_hash (d + 2) v3 r4573) ?_)
    refine gh_name (fun v3' hn => ?_)
    have h := h v3' hn
    refine gh_lstore_n (L2 := [(3, 1, v3'), (0, 2, 63), (5, 0, v5), (6, 0, v6)]) gd_Model_hashNames_37 (by decide) rfl ?_
    obtain ⟨q4575, h⟩ := h
    refine gh_iinc (L2 := [(6, 0, v6 + 1), (3, 1, v3'), (0, 2, 63), (5, 0, v5)]) gd_Model_hashNames_38 3 rfl q4575 (by decide) rfl ?_
    refine gh_goto (tgt := 17) gd_Model_hashNames_41 (by decide) ?_
    refine gh_pick (L2 := [(0, 2, 63), (3, 1, v3'), (5, 0, v5), (6, 0, v6 + 1)]) [2, 1, 3, 0] rfl ?_
    exact hK17 v3' (v6 + 1) hF h
  · have h := hB c4572
    refine gh_lload_n gd_Model_hashNames_44 1 rfl ?_
    refine gh_aload_n gd_Model_hashNames_45 0 rfl (by decide) ?_
    refine gf_63_39 gd_Model_hashNames_46 gh_k1407 hF ?_
    refine gh_iload gd_Model_hashNames_49 2 rfl ?_
    obtain ⟨q4576, h⟩ := h
    obtain ⟨q4577, h⟩ := h
    refine la_86 gd_Model_hashNames_51 hF q4576 q4577 rfl ?_
    refine gh_i2l gd_Model_hashNames_52 ?_
    refine cv_Model_hash (d := d + 2) gd_Model_hashNames_53 gh_k2072 (Nat.le_of_ble_eq_true rfl) (gh_C.pe (e_Model_hash (d + 2) v3 (m 86 v5)) ?_)
    refine gh_aload_n gd_Model_hashNames_56 0 rfl (by decide) ?_
    refine gf_63_40 gd_Model_hashNames_57 gh_k1408 hF ?_
    refine gh_iload gd_Model_hashNames_60 2 rfl ?_
    obtain ⟨q4578, h⟩ := h
    obtain ⟨q4579, h⟩ := h
    refine la_87 gd_Model_hashNames_62 hF q4578 q4579 rfl ?_
    refine gh_i2l gd_Model_hashNames_63 ?_
    refine cv_Model_hash (d := d + 2) gd_Model_hashNames_64 gh_k2072 (Nat.le_of_ble_eq_true rfl) (gh_C.pe (e_Model_hash (d + 2) (x_Model_hash v3 (m 86 v5)) (m 87 v5)) ?_)
    refine gh_name (fun v3' hn => ?_)
    have h := h v3' hn
    refine gh_lstore_n (L2 := [(3, 1, v3'), (0, 2, 63), (5, 0, v5), (6, 0, v6)]) gd_Model_hashNames_67 (by decide) rfl ?_
    obtain ⟨q4580, h⟩ := h
    refine gh_iinc (L2 := [(5, 0, v5 + 1), (3, 1, v3'), (0, 2, 63), (6, 0, v6)]) gd_Model_hashNames_68 2 rfl q4580 (by decide) rfl ?_
    refine gh_goto (tgt := 5) gd_Model_hashNames_71 (by decide) ?_
    refine gh_pick (L2 := [(0, 2, 63), (3, 1, v3'), (5, 0, v5 + 1)]) [2, 1, 0] rfl ?_
    exact hK5 v3' (v5 + 1) hF h
theorem b_Model_hashNames_5 {E : gh_E} {Q : Int → Prop} {K5 : Int → Int → Prop} (d : Nat) {m : gh_M} (hK : ∀ (v3 : Int) (v5 : Int), gh_F m → K5 v3 v5 → gh_T E (gh_yModel_hashNames.cls, prog_14_method_114_code, 7, false, 1) (d + 3) 5 [(0, 2, 63), (3, 1, v3), (5, 0, v5)] [] m (fun r m1 => m1 = m ∧ Q r)) (v3 : Int) (v5 : Int) (hF : gh_F m) (h : f_Model_hashNames_5 Q m K5 v3 v5) : gh_T E (gh_yModel_hashNames.cls, prog_14_method_114_code, 7, false, 1) (d + 3) 5 [(0, 2, 63), (3, 1, v3), (5, 0, v5)] [] m (fun r m1 => m1 = m ∧ Q r) := by
  have hK5 := hK
  unfold f_Model_hashNames_5 at h
  refine gh_iload gd_Model_hashNames_5 2 rfl ?_
  refine gh_aload_n gd_Model_hashNames_7 0 rfl (by decide) ?_
  refine gf_63_26 gd_Model_hashNames_8 gh_k1394 hF rfl ?_
  obtain ⟨hA, hB⟩ := h
  refine gh_jge (tgt := 74) gd_Model_hashNames_11 (by decide) (fun c4571 => ?_) (fun c4571 => ?_)
  · have h := hA c4571
    refine gh_iconst gd_Model_hashNames_14 (gh_r0 rfl) ?_
    refine gh_istore (L2 := [(6, 0, 0), (0, 2, 63), (3, 1, v3), (5, 0, v5)]) gd_Model_hashNames_15 (by decide) rfl ?_
    refine gh_pick (L2 := [(0, 2, 63), (3, 1, v3), (5, 0, v5), (6, 0, 0)]) [1, 2, 3, 0] rfl ?_
    exact gh_L2_sound (T := fun v3 v6 => gh_T E (gh_yModel_hashNames.cls, prog_14_method_114_code, 7, false, 1) (d + 3) 17 [(0, 2, 63), (3, 1, v3), (5, 0, v5), (6, 0, v6)] [] m (fun r m1 => m1 = m ∧ Q r)) (fun _ _ => gh_F m) (fun K17 v3 v6 hK hF h => b_Model_hashNames_17 d hK5 hK v3 v6 hF h) v3 0 hF h
  · have h := hB c4571
    refine gh_lload_n gd_Model_hashNames_74 1 rfl ?_
    exact gh_ret1 rfl gd_Model_hashNames_75 ⟨rfl, h⟩
theorem s_Model_hashNames {E : gh_E} {m : gh_M} {Q : Int → Prop} (d : Nat) (v1 : Int) (hF : gh_F m) (h : w_Model_hashNames v1 m Q) : gh_C E gh_yModel_hashNames prog_14_method_114_code 7 (some .long) 1 (d + 3) [(2, 63), (1, v1)] m (fun r m1 => m1 = m ∧ Q r) := by
  refine gh_enter2 (L := [(0, 2, 63), (1, 1, v1)]) (by decide +kernel) gh_rt1 (Nat.le_of_ble_eq_true rfl) rfl rfl ?_
  unfold w_Model_hashNames at h
  refine gh_lload_n gd_Model_hashNames_0 1 rfl ?_
  refine gh_lstore_n (L2 := [(3, 1, v1), (0, 2, 63), (1, 1, v1)]) gd_Model_hashNames_1 (by decide) rfl ?_
  refine gh_iconst gd_Model_hashNames_2 (gh_r0 rfl) ?_
  refine gh_istore (L2 := [(5, 0, 0), (3, 1, v1), (0, 2, 63), (1, 1, v1)]) gd_Model_hashNames_3 (by decide) rfl ?_
  refine gh_pick (L2 := [(0, 2, 63), (3, 1, v1), (5, 0, 0)]) [2, 1, 0] rfl ?_
  exact gh_L2_sound (T := fun v3 v5 => gh_T E (gh_yModel_hashNames.cls, prog_14_method_114_code, 7, false, 1) (d + 3) 5 [(0, 2, 63), (3, 1, v3), (5, 0, v5)] [] m (fun r m1 => m1 = m ∧ Q r)) (fun _ _ => gh_F m) (fun K5 v3 v5 hK hF h => b_Model_hashNames_5 d hK v3 v5 hF h) v1 0 hF h
def f_Model_digest_143 (Q : Int → gh_M → Prop) (m : gh_M) (K143 : Int → Int → Prop) (v1 : Int) (v3 : Int) : Prop := ((v3 < (m 63 68) → 0 ≤ v3 ∧ v3 < 300 ∧ ∀ v1' : Int, v1' = x_Model_hash v1 (m 109 v3) → gh_i (v3 + 1) ∧ K143 v1' (v3 + 1)) ∧ (¬ (v3 < (m 63 68)) → w_Model_proper 0 m (fun r4604 => w_Model_proper 1 m (fun r4606 => w_Model_proper 2 m (fun r4608 => Q (x_Model_hash (x_Model_hash (x_Model_hash v1 r4604) r4606) r4608) m)))))
def f_Model_digest_98 (Q : Int → gh_M → Prop) (K98 : Int → Int → gh_M → Prop) (v1 : Int) (v3 : Int) (m : gh_M) : Prop := ((v3 ≤ (m 63 50) → w_Model_next2 v3 m (fun r4593 m4594 => w_Model_items v3 m4594 (fun r4595 m4596 => w_Model_end v3 m4596 (fun r4597 m4598 => ∀ v1' : Int, v1' = x_Model_hash (x_Model_hash (x_Model_hash v1 r4593) r4595) r4597 → gh_i (v3 + 1) ∧ K98 v1' (v3 + 1) m4598)))) ∧ (¬ (v3 ≤ (m 63 50)) → gh_L2 (fun K143 v1 v3 => f_Model_digest_143 Q m K143 v1 v3) v1 0))
def f_Model_digest_70 (Q : Int → gh_M → Prop) (m : gh_M) (K70 : Int → Int → Prop) (v1 : Int) (v3 : Int) : Prop := ((v3 < (m 63 50) → 0 ≤ v3 ∧ v3 < 8 ∧ ∀ v1' : Int, v1' = x_Model_hash v1 (m 96 v3) → gh_i (v3 + 1) ∧ K70 v1' (v3 + 1)) ∧ (¬ (v3 < (m 63 50)) → gh_M2 (fun K98 v1 v3 m => f_Model_digest_98 Q K98 v1 v3 m) v1 0 m))
def f_Model_digest_39 (Q : Int → gh_M → Prop) (m : gh_M) (K39 : Int → Int → Prop) (v1 : Int) (v3 : Int) : Prop := ((v3 < 7 → w_Model_sum v3 m (fun r4583 => ∀ v1' : Int, v1' = x_Model_hash v1 r4583 → gh_i (v3 + 1) ∧ K39 v1' (v3 + 1))) ∧ (¬ (v3 < 7) → w_Model_hashNames v1 m (fun r4586 => gh_L2 (fun K70 v1 v3 => f_Model_digest_70 Q m K70 v1 v3) r4586 0)))
def w_Model_digest (m : gh_M) (Q : Int → gh_M → Prop) : Prop := ∀ v1 : Int, v1 = x_Model_hash (x_Model_hash (x_Model_hash 17 (m 63 1)) (m 63 2)) (m 63 3) → (((m 63 24) = 0 → Q v1 m) ∧ (¬ ((m 63 24) = 0) → gh_L2 (fun K39 v1 v3 => f_Model_digest_39 Q m K39 v1 v3) v1 0))
theorem b_Model_digest_143 {E : gh_E} {Q : Int → gh_M → Prop} {K143 : Int → Int → Prop} (d : Nat) {m : gh_M} (hK : ∀ (v1 : Int) (v3 : Int), gh_F m → K143 v1 v3 → gh_T E (gh_yModel_digest.cls, prog_14_method_115_code, 4, false, 1) (d + 4) 143 [(0, 2, 63), (1, 1, v1), (3, 0, v3)] [] m (fun r m1 => gh_F m1 ∧ Q r m1)) (v1 : Int) (v3 : Int) (hF : gh_F m) (h : f_Model_digest_143 Q m K143 v1 v3) : gh_T E (gh_yModel_digest.cls, prog_14_method_115_code, 4, false, 1) (d + 4) 143 [(0, 2, 63), (1, 1, v1), (3, 0, v3)] [] m (fun r m1 => gh_F m1 ∧ Q r m1) := by
  have hK143 := hK
  unfold f_Model_digest_143 at h
  refine gh_iload_n gd_Model_digest_143 2 rfl ?_
  refine gh_aload_n gd_Model_digest_144 0 rfl (by decide) ?_
  refine gf_63_68 gd_Model_digest_145 gh_k1436 hF rfl ?_
  obtain ⟨hA, hB⟩ := h
  refine gh_jge (tgt := 169) gd_Model_digest_148 (by decide) (fun c4600 => ?_) (fun c4600 => ?_)
  · have h := hA c4600
    refine gh_lload_n gd_Model_digest_151 1 rfl ?_
    refine gh_aload_n gd_Model_digest_152 0 rfl (by decide) ?_
    refine gf_63_69 gd_Model_digest_153 gh_k1437 hF ?_
    refine gh_iload_n gd_Model_digest_156 2 rfl ?_
    obtain ⟨q4601, h⟩ := h
    obtain ⟨q4602, h⟩ := h
    refine la_109 gd_Model_digest_157 hF q4601 q4602 rfl ?_
    refine gh_i2l gd_Model_digest_158 ?_
    refine cv_Model_hash (d := d + 3) gd_Model_digest_159 gh_k2072 (Nat.le_of_ble_eq_true rfl) (gh_C.pe (e_Model_hash (d + 3) v1 (m 109 v3)) ?_)
    refine gh_name (fun v1' hn => ?_)
    have h := h v1' hn
    refine gh_lstore_n (L2 := [(1, 1, v1'), (0, 2, 63), (3, 0, v3)]) gd_Model_digest_162 (by decide) rfl ?_
    obtain ⟨q4603, h⟩ := h
    refine gh_iinc (L2 := [(3, 0, v3 + 1), (1, 1, v1'), (0, 2, 63)]) gd_Model_digest_163 2 rfl q4603 (by decide) rfl ?_
    refine gh_goto (tgt := 143) gd_Model_digest_166 (by decide) ?_
    refine gh_pick (L2 := [(0, 2, 63), (1, 1, v1'), (3, 0, v3 + 1)]) [2, 1, 0] rfl ?_
    exact hK143 v1' (v3 + 1) hF h
  · have h := hB c4600
    refine gh_lload_n gd_Model_digest_169 1 rfl ?_
    refine gh_aload_n gd_Model_digest_170 0 rfl (by decide) ?_
    refine gh_iconst gd_Model_digest_171 (gh_r0 rfl) ?_
    refine cv_Model_proper (d := d + 3) gd_Model_digest_172 gh_k2085 hF (Nat.le_of_ble_eq_true rfl) (gh_C.pw (s_Model_proper (d + 2) 0 hF h) (fun r4604 h => ?_))
    refine gh_i2l gd_Model_digest_175 ?_
    refine cv_Model_hash (d := d + 3) gd_Model_digest_176 gh_k2072 (Nat.le_of_ble_eq_true rfl) (gh_C.pe (e_Model_hash (d + 3) v1 r4604) ?_)
    refine gh_aload_n gd_Model_digest_179 0 rfl (by decide) ?_
    refine gh_iconst gd_Model_digest_180 (gh_r0 rfl) ?_
    refine cv_Model_proper (d := d + 3) gd_Model_digest_181 gh_k2085 hF (Nat.le_of_ble_eq_true rfl) (gh_C.pw (s_Model_proper (d + 2) 1 hF h) (fun r4606 h => ?_))
    refine gh_i2l gd_Model_digest_184 ?_
    refine cv_Model_hash (d := d + 3) gd_Model_digest_185 gh_k2072 (Nat.le_of_ble_eq_true rfl) (gh_C.pe (e_Model_hash (d + 3) (x_Model_hash v1 r4604) r4606) ?_)
    refine gh_aload_n gd_Model_digest_188 0 rfl (by decide) ?_
    refine gh_iconst gd_Model_digest_189 (gh_r0 rfl) ?_
    refine cv_Model_proper (d := d + 3) gd_Model_digest_190 gh_k2085 hF (Nat.le_of_ble_eq_true rfl) (gh_C.pw (s_Model_proper (d + 2) 2 hF h) (fun r4608 h => ?_))
    refine gh_i2l gd_Model_digest_193 ?_
    refine cv_Model_hash (d := d + 3) gd_Model_digest_194 gh_k2072 (Nat.le_of_ble_eq_true rfl) (gh_C.pe (e_Model_hash (d + 3) (x_Model_hash (x_Model_hash v1 r4604) r4606) r4608) ?_)
    exact gh_ret1 rfl gd_Model_digest_197 ⟨hF, h⟩
theorem b_Model_digest_98 {E : gh_E} {Q : Int → gh_M → Prop} {K98 : Int → Int → gh_M → Prop} (d : Nat) (hK : ∀ (v1 : Int) (v3 : Int) (m : gh_M), gh_F m → K98 v1 v3 m → gh_T E (gh_yModel_digest.cls, prog_14_method_115_code, 4, false, 1) (d + 4) 98 [(0, 2, 63), (1, 1, v1), (3, 0, v3)] [] m (fun r m1 => gh_F m1 ∧ Q r m1)) (v1 : Int) (v3 : Int) (m : gh_M) (hF : gh_F m) (h : f_Model_digest_98 Q K98 v1 v3 m) : gh_T E (gh_yModel_digest.cls, prog_14_method_115_code, 4, false, 1) (d + 4) 98 [(0, 2, 63), (1, 1, v1), (3, 0, v3)] [] m (fun r m1 => gh_F m1 ∧ Q r m1) := by
  have hK98 := hK
  unfold f_Model_digest_98 at h
  refine gh_iload_n gd_Model_digest_98 2 rfl ?_
  refine gh_aload_n gd_Model_digest_99 0 rfl (by decide) ?_
  refine gf_63_50 gd_Model_digest_100 gh_k1418 hF rfl ?_
  obtain ⟨hA, hB⟩ := h
  refine gh_jgt (tgt := 141) gd_Model_digest_103 (by decide) (fun c4592 => ?_) (fun c4592 => ?_)
  · have h := hA c4592
    refine gh_lload_n gd_Model_digest_106 1 rfl ?_
    refine gh_aload_n gd_Model_digest_107 0 rfl (by decide) ?_
    refine gh_iload_n gd_Model_digest_108 2 rfl ?_
    refine cv_Model_next2 (d := d + 3) gd_Model_digest_109 gh_k2082 hF (Nat.le_of_ble_eq_true rfl) (gh_C.mono (s_Model_next2 d v3 hF h) (fun r4593 m4594 hq => ?_))
    obtain ⟨hF, h⟩ := hq
    refine gh_i2l gd_Model_digest_112 ?_
    refine cv_Model_hash (d := d + 3) gd_Model_digest_113 gh_k2072 (Nat.le_of_ble_eq_true rfl) (gh_C.pe (e_Model_hash (d + 3) v1 r4593) ?_)
    refine gh_aload_n gd_Model_digest_116 0 rfl (by decide) ?_
    refine gh_iload_n gd_Model_digest_117 2 rfl ?_
    refine cv_Model_items (d := d + 3) gd_Model_digest_118 gh_k2083 hF (Nat.le_of_ble_eq_true rfl) (gh_C.mono (s_Model_items d v3 hF h) (fun r4595 m4596 hq => ?_))
    obtain ⟨hF, h⟩ := hq
    refine gh_i2l gd_Model_digest_121 ?_
    refine cv_Model_hash (d := d + 3) gd_Model_digest_122 gh_k2072 (Nat.le_of_ble_eq_true rfl) (gh_C.pe (e_Model_hash (d + 3) (x_Model_hash v1 r4593) r4595) ?_)
    refine gh_aload_n gd_Model_digest_125 0 rfl (by decide) ?_
    refine gh_iload_n gd_Model_digest_126 2 rfl ?_
    refine cv_Model_end (d := d + 3) gd_Model_digest_127 gh_k2084 hF (Nat.le_of_ble_eq_true rfl) (gh_C.mono (s_Model_end d v3 hF h) (fun r4597 m4598 hq => ?_))
    obtain ⟨hF, h⟩ := hq
    refine gh_i2l gd_Model_digest_130 ?_
    refine cv_Model_hash (d := d + 3) gd_Model_digest_131 gh_k2072 (Nat.le_of_ble_eq_true rfl) (gh_C.pe (e_Model_hash (d + 3) (x_Model_hash (x_Model_hash v1 r4593) r4595) r4597) ?_)
    refine gh_name (fun v1' hn => ?_)
    have h := h v1' hn
    refine gh_lstore_n (L2 := [(1, 1, v1'), (0, 2, 63), (3, 0, v3)]) gd_Model_digest_134 (by decide) rfl ?_
    obtain ⟨q4599, h⟩ := h
    refine gh_iinc (L2 := [(3, 0, v3 + 1), (1, 1, v1'), (0, 2, 63)]) gd_Model_digest_135 2 rfl q4599 (by decide) rfl ?_
    refine gh_goto (tgt := 98) gd_Model_digest_138 (by decide) ?_
    refine gh_pick (L2 := [(0, 2, 63), (1, 1, v1'), (3, 0, v3 + 1)]) [2, 1, 0] rfl ?_
    exact hK98 v1' (v3 + 1) m4598 hF h
  · have h := hB c4592
    refine gh_iconst gd_Model_digest_141 (gh_r0 rfl) ?_
    refine gh_istore_n (L2 := [(3, 0, 0), (0, 2, 63), (1, 1, v1)]) gd_Model_digest_142 (by decide) rfl ?_
    refine gh_pick (L2 := [(0, 2, 63), (1, 1, v1), (3, 0, 0)]) [1, 2, 0] rfl ?_
    exact gh_L2_sound (T := fun v1 v3 => gh_T E (gh_yModel_digest.cls, prog_14_method_115_code, 4, false, 1) (d + 4) 143 [(0, 2, 63), (1, 1, v1), (3, 0, v3)] [] m (fun r m1 => gh_F m1 ∧ Q r m1)) (fun _ _ => gh_F m) (fun K143 v1 v3 hK hF h => b_Model_digest_143 d hK v1 v3 hF h) v1 0 hF h
theorem b_Model_digest_70 {E : gh_E} {Q : Int → gh_M → Prop} {K70 : Int → Int → Prop} (d : Nat) {m : gh_M} (hK : ∀ (v1 : Int) (v3 : Int), gh_F m → K70 v1 v3 → gh_T E (gh_yModel_digest.cls, prog_14_method_115_code, 4, false, 1) (d + 4) 70 [(0, 2, 63), (1, 1, v1), (3, 0, v3)] [] m (fun r m1 => gh_F m1 ∧ Q r m1)) (v1 : Int) (v3 : Int) (hF : gh_F m) (h : f_Model_digest_70 Q m K70 v1 v3) : gh_T E (gh_yModel_digest.cls, prog_14_method_115_code, 4, false, 1) (d + 4) 70 [(0, 2, 63), (1, 1, v1), (3, 0, v3)] [] m (fun r m1 => gh_F m1 ∧ Q r m1) := by
  have hK70 := hK
  unfold f_Model_digest_70 at h
  refine gh_iload_n gd_Model_digest_70 2 rfl ?_
  refine gh_aload_n gd_Model_digest_71 0 rfl (by decide) ?_
  refine gf_63_50 gd_Model_digest_72 gh_k1418 hF rfl ?_
  obtain ⟨hA, hB⟩ := h
  refine gh_jge (tgt := 96) gd_Model_digest_75 (by decide) (fun c4588 => ?_) (fun c4588 => ?_)
  · have h := hA c4588
    refine gh_lload_n gd_Model_digest_78 1 rfl ?_
    refine gh_aload_n gd_Model_digest_79 0 rfl (by decide) ?_
    refine gf_63_51 gd_Model_digest_80 gh_k1419 hF ?_
    refine gh_iload_n gd_Model_digest_83 2 rfl ?_
    obtain ⟨q4589, h⟩ := h
    obtain ⟨q4590, h⟩ := h
    refine la_96 gd_Model_digest_84 hF q4589 q4590 rfl ?_
    refine gh_i2l gd_Model_digest_85 ?_
    refine cv_Model_hash (d := d + 3) gd_Model_digest_86 gh_k2072 (Nat.le_of_ble_eq_true rfl) (gh_C.pe (e_Model_hash (d + 3) v1 (m 96 v3)) ?_)
    refine gh_name (fun v1' hn => ?_)
    have h := h v1' hn
    refine gh_lstore_n (L2 := [(1, 1, v1'), (0, 2, 63), (3, 0, v3)]) gd_Model_digest_89 (by decide) rfl ?_
    obtain ⟨q4591, h⟩ := h
    refine gh_iinc (L2 := [(3, 0, v3 + 1), (1, 1, v1'), (0, 2, 63)]) gd_Model_digest_90 2 rfl q4591 (by decide) rfl ?_
    refine gh_goto (tgt := 70) gd_Model_digest_93 (by decide) ?_
    refine gh_pick (L2 := [(0, 2, 63), (1, 1, v1'), (3, 0, v3 + 1)]) [2, 1, 0] rfl ?_
    exact hK70 v1' (v3 + 1) hF h
  · have h := hB c4588
    refine gh_iconst gd_Model_digest_96 (gh_r0 rfl) ?_
    refine gh_istore_n (L2 := [(3, 0, 0), (0, 2, 63), (1, 1, v1)]) gd_Model_digest_97 (by decide) rfl ?_
    refine gh_pick (L2 := [(0, 2, 63), (1, 1, v1), (3, 0, 0)]) [1, 2, 0] rfl ?_
    exact gh_M2_sound (T := fun v1 v3 m => gh_T E (gh_yModel_digest.cls, prog_14_method_115_code, 4, false, 1) (d + 4) 98 [(0, 2, 63), (1, 1, v1), (3, 0, v3)] [] m (fun r m1 => gh_F m1 ∧ Q r m1)) (fun _ _ m => gh_F m) (fun K98 v1 v3 m hK hF h => b_Model_digest_98 d hK v1 v3 m hF h) v1 0 m hF h
theorem b_Model_digest_39 {E : gh_E} {Q : Int → gh_M → Prop} {K39 : Int → Int → Prop} (d : Nat) {m : gh_M} (hK : ∀ (v1 : Int) (v3 : Int), gh_F m → K39 v1 v3 → gh_T E (gh_yModel_digest.cls, prog_14_method_115_code, 4, false, 1) (d + 4) 39 [(0, 2, 63), (1, 1, v1), (3, 0, v3)] [] m (fun r m1 => gh_F m1 ∧ Q r m1)) (v1 : Int) (v3 : Int) (hF : gh_F m) (h : f_Model_digest_39 Q m K39 v1 v3) : gh_T E (gh_yModel_digest.cls, prog_14_method_115_code, 4, false, 1) (d + 4) 39 [(0, 2, 63), (1, 1, v1), (3, 0, v3)] [] m (fun r m1 => gh_F m1 ∧ Q r m1) := by
  have hK39 := hK
  unfold f_Model_digest_39 at h
  refine gh_iload_n gd_Model_digest_39 2 rfl ?_
  refine gh_bipush gd_Model_digest_40 (by decide) (gh_r0 rfl) ?_
  obtain ⟨hA, hB⟩ := h
  refine gh_jge (tgt := 62) gd_Model_digest_42 (by decide) (fun c4582 => ?_) (fun c4582 => ?_)
  · have h := hA c4582
    refine gh_lload_n gd_Model_digest_45 1 rfl ?_
    refine gh_aload_n gd_Model_digest_46 0 rfl (by decide) ?_
    refine gh_iload_n gd_Model_digest_47 2 rfl ?_
    refine cv_Model_sum (d := d + 3) gd_Model_digest_48 gh_k2076 hF (Nat.le_of_ble_eq_true rfl) (gh_C.pw (s_Model_sum d v3 hF h) (fun r4583 h => ?_))
    refine gh_i2l gd_Model_digest_51 ?_
    refine cv_Model_hash (d := d + 3) gd_Model_digest_52 gh_k2072 (Nat.le_of_ble_eq_true rfl) (gh_C.pe (e_Model_hash (d + 3) v1 r4583) ?_)
    refine gh_name (fun v1' hn => ?_)
    have h := h v1' hn
    refine gh_lstore_n (L2 := [(1, 1, v1'), (0, 2, 63), (3, 0, v3)]) gd_Model_digest_55 (by decide) rfl ?_
    obtain ⟨q4585, h⟩ := h
    refine gh_iinc (L2 := [(3, 0, v3 + 1), (1, 1, v1'), (0, 2, 63)]) gd_Model_digest_56 2 rfl q4585 (by decide) rfl ?_
    refine gh_goto (tgt := 39) gd_Model_digest_59 (by decide) ?_
    refine gh_pick (L2 := [(0, 2, 63), (1, 1, v1'), (3, 0, v3 + 1)]) [2, 1, 0] rfl ?_
    exact hK39 v1' (v3 + 1) hF h
  · have h := hB c4582
    refine gh_aload_n gd_Model_digest_62 0 rfl (by decide) ?_
    refine gh_lload_n gd_Model_digest_63 1 rfl ?_
    refine cv_Model_hashNames (d := d + 3) gd_Model_digest_64 gh_k2077 hF (Nat.le_of_ble_eq_true rfl) (gh_C.pw (s_Model_hashNames d v1 hF h) (fun r4586 h => ?_))
    refine gh_lstore_n (L2 := [(1, 1, r4586), (0, 2, 63), (3, 0, v3)]) gd_Model_digest_67 (by decide) rfl ?_
    refine gh_iconst gd_Model_digest_68 (gh_r0 rfl) ?_
    refine gh_istore_n (L2 := [(3, 0, 0), (1, 1, r4586), (0, 2, 63)]) gd_Model_digest_69 (by decide) rfl ?_
    refine gh_pick (L2 := [(0, 2, 63), (1, 1, r4586), (3, 0, 0)]) [2, 1, 0] rfl ?_
    exact gh_L2_sound (T := fun v1 v3 => gh_T E (gh_yModel_digest.cls, prog_14_method_115_code, 4, false, 1) (d + 4) 70 [(0, 2, 63), (1, 1, v1), (3, 0, v3)] [] m (fun r m1 => gh_F m1 ∧ Q r m1)) (fun _ _ => gh_F m) (fun K70 v1 v3 hK hF h => b_Model_digest_70 d hK v1 v3 hF h) r4586 0 hF h
theorem s_Model_digest {E : gh_E} {m : gh_M} {Q : Int → gh_M → Prop} (d : Nat) (hF : gh_F m) (h : w_Model_digest m Q) : gh_C E gh_yModel_digest prog_14_method_115_code 4 (some .long) 1 (d + 4) [(2, 63)] m (fun r m1 => gh_F m1 ∧ Q r m1) := by
  refine gh_enter2 (L := [(0, 2, 63)]) (by decide +kernel) gh_rt1 (Nat.le_of_ble_eq_true rfl) rfl rfl ?_
  unfold w_Model_digest at h
  refine gh_ldc2 (n := 17) gd_Model_digest_0 gh_k2071 (by decide) (gh_r1 rfl) ?_
  refine gh_aload_n gd_Model_digest_3 0 rfl (by decide) ?_
  refine gf_63_1 gd_Model_digest_4 gh_k1369 hF rfl ?_
  refine gh_i2l gd_Model_digest_7 ?_
  refine cv_Model_hash (d := d + 3) gd_Model_digest_8 gh_k2072 (Nat.le_of_ble_eq_true rfl) (gh_C.pe (e_Model_hash (d + 3) 17 (m 63 1)) ?_)
  refine gh_aload_n gd_Model_digest_11 0 rfl (by decide) ?_
  refine gf_63_2 gd_Model_digest_12 gh_k1370 hF rfl ?_
  refine gh_i2l gd_Model_digest_15 ?_
  refine cv_Model_hash (d := d + 3) gd_Model_digest_16 gh_k2072 (Nat.le_of_ble_eq_true rfl) (gh_C.pe (e_Model_hash (d + 3) (x_Model_hash 17 (m 63 1)) (m 63 2)) ?_)
  refine gh_aload_n gd_Model_digest_19 0 rfl (by decide) ?_
  refine gf_63_3 gd_Model_digest_20 gh_k1371 hF rfl ?_
  refine gh_i2l gd_Model_digest_23 ?_
  refine cv_Model_hash (d := d + 3) gd_Model_digest_24 gh_k2072 (Nat.le_of_ble_eq_true rfl) (gh_C.pe (e_Model_hash (d + 3) (x_Model_hash (x_Model_hash 17 (m 63 1)) (m 63 2)) (m 63 3)) ?_)
  refine gh_name (fun v1 hn => ?_)
  have h := h v1 hn
  refine gh_lstore_n (L2 := [(1, 1, v1), (0, 2, 63)]) gd_Model_digest_27 (by decide) rfl ?_
  refine gh_aload_n gd_Model_digest_28 1 rfl (by decide) ?_
  refine gf_63_24 gd_Model_digest_29 gh_k1392 hF rfl ?_
  obtain ⟨hA, hB⟩ := h
  refine gh_zne (tgt := 37) gd_Model_digest_32 (by decide) (fun c4581 => ?_) (fun c4581 => ?_)
  · have h := hA c4581
    refine gh_lload_n gd_Model_digest_35 0 rfl ?_
    exact gh_ret1 rfl gd_Model_digest_36 ⟨hF, h⟩
  · have h := hB c4581
    refine gh_iconst gd_Model_digest_37 (gh_r0 rfl) ?_
    refine gh_istore_n (L2 := [(3, 0, 0), (1, 1, v1), (0, 2, 63)]) gd_Model_digest_38 (by decide) rfl ?_
    refine gh_pick (L2 := [(0, 2, 63), (1, 1, v1), (3, 0, 0)]) [2, 1, 0] rfl ?_
    exact gh_L2_sound (T := fun v1 v3 => gh_T E (gh_yModel_digest.cls, prog_14_method_115_code, 4, false, 1) (d + 4) 39 [(0, 2, 63), (1, 1, v1), (3, 0, v3)] [] m (fun r m1 => gh_F m1 ∧ Q r m1)) (fun _ _ => gh_F m) (fun K39 v1 v3 hK hF h => b_Model_digest_39 d hK v1 v3 hF h) v1 0 hF h
