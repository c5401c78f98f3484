def f_Tape_areSigns_2 (v0 : Int) (Q : Int → Prop) (m : gh_M) (K2 : Int → Prop) (v1 : Int) : Prop := ((v1 < 32 → ∀ v2 : Int, v2 = gh_iand_f (gh_iushr_f v0 v1) 255 → ∃ J34 : Prop, (J34 → gh_i (v1 + 8) ∧ K2 (v1 + 8)) ∧ ((((v2 = 0) ∨ (¬ (v2 < 32) ∧ (v2 ≤ 126))) → J34) ∧ (¬ ((v2 = 0) ∨ (¬ (v2 < 32) ∧ (v2 ≤ 126))) → Q 0))) ∧ (¬ (v1 < 32) → Q 1))
def w_Tape_areSigns (v0 : Int) (m : gh_M) (Q : Int → Prop) : Prop := gh_L1 (fun K2 v1 => f_Tape_areSigns_2 v0 Q m K2 v1) 0
theorem b_Tape_areSigns_2 {E : gh_E} {v0 : Int} {Q : Int → Prop} {K2 : Int → Prop} (d : Nat) {m : gh_M} (hK : ∀ (v1 : Int), gh_F m → K2 v1 → gh_T E (gh_yTape_areSigns.cls, prog_10_method_2_code, 3, false, 8) (d + 0) 2 [(0, 0, v0), (1, 0, v1)] [] m (fun r m1 => m1 = m ∧ Q r)) (v1 : Int) (hF : gh_F m) (h : f_Tape_areSigns_2 v0 Q m K2 v1) : gh_T E (gh_yTape_areSigns.cls, prog_10_method_2_code, 3, false, 8) (d + 0) 2 [(0, 0, v0), (1, 0, v1)] [] m (fun r m1 => m1 = m ∧ Q r) := by
  have hK2 := hK
  unfold f_Tape_areSigns_2 at h
  refine gh_iload_n gd_Tape_areSigns_2 1 rfl ?_
  refine gh_bipush gd_Tape_areSigns_3 (by decide) (gh_r0 rfl) ?_
  obtain ⟨hA, hB⟩ := h
  refine gh_jge (tgt := 40) gd_Tape_areSigns_5 (by decide) (fun c313 => ?_) (fun c313 => ?_)
  · have h := hA c313
    refine gh_iload_n gd_Tape_areSigns_8 0 rfl ?_
    refine gh_iload_n gd_Tape_areSigns_9 1 rfl ?_
    refine gh_iushr gd_Tape_areSigns_10 ?_
    refine gh_sipush gd_Tape_areSigns_11 (by decide) (gh_r0 rfl) ?_
    refine gh_iand gd_Tape_areSigns_14 ?_
    refine gh_name (fun v2 hn => ?_)
    have h := h v2 hn
    refine gh_istore_n (L2 := [(2, 0, v2), (0, 0, v0), (1, 0, v1)]) gd_Tape_areSigns_15 (by decide) rfl ?_
    refine gh_iload_n gd_Tape_areSigns_16 0 rfl ?_
    obtain ⟨J34, hJ34, h⟩ := h
    have hJ34 : gh_F m → J34 → gh_T E (gh_yTape_areSigns.cls, prog_10_method_2_code, 3, false, 8) (d + 0) 34 [(0, 0, v0), (1, 0, v1)] [] m (fun r m1 => m1 = m ∧ Q r) := by
      intro hF hj
      have h := hJ34 hj
      obtain ⟨q314, h⟩ := h
      refine gh_iinc (L2 := [(1, 0, v1 + 8), (0, 0, v0)]) gd_Tape_areSigns_34 1 rfl q314 (by decide) rfl ?_
      refine gh_goto (tgt := 2) gd_Tape_areSigns_37 (by decide) ?_
      refine gh_pick (L2 := [(0, 0, v0), (1, 0, v1 + 8)]) [1, 0] rfl ?_
      exact hK2 (v1 + 8) hF h
    obtain ⟨hA, hB⟩ := h
    have k315 : ((v2 = 0) ∨ (¬ (v2 < 32) ∧ (v2 ≤ 126))) → gh_T E (gh_yTape_areSigns.cls, prog_10_method_2_code, 3, false, 8) (d + 0) 34 [(2, 0, v2), (0, 0, v0), (1, 0, v1)] [] m (fun r m1 => m1 = m ∧ Q r) := by
      intro c
      have h := hA c
      refine gh_pick (L2 := [(0, 0, v0), (1, 0, v1)]) [1, 2] rfl ?_
      exact hJ34 hF h
    have k316 : ¬ ((v2 = 0) ∨ (¬ (v2 < 32) ∧ (v2 ≤ 126))) → gh_T E (gh_yTape_areSigns.cls, prog_10_method_2_code, 3, false, 8) (d + 0) 32 [(2, 0, v2), (0, 0, v0), (1, 0, v1)] [] m (fun r m1 => m1 = m ∧ Q r) := by
      intro c
      have h := hB c
      refine gh_iconst gd_Tape_areSigns_32 (gh_r0 rfl) ?_
      exact gh_ret8 rfl gd_Tape_areSigns_33 (by decide) ⟨rfl, h⟩
    refine gh_zeq (tgt := 34) gd_Tape_areSigns_17 (by decide) (fun c317 => ?_) (fun c317 => ?_)
    · have hz : True := trivial
      exact k315 (Or.inl c317)
    · have hz : True := trivial
      refine gh_iload_n gd_Tape_areSigns_20 0 rfl ?_
      refine gh_bipush gd_Tape_areSigns_21 (by decide) (gh_r0 rfl) ?_
      refine gh_jlt (tgt := 32) gd_Tape_areSigns_23 (by decide) (fun c318 => ?_) (fun c318 => ?_)
      · have hz : True := trivial
        exact k316 (fun z => z.elim c317 (fun z => z.1 c318))
      · have hz : True := trivial
        refine gh_iload_n gd_Tape_areSigns_26 0 rfl ?_
        refine gh_bipush gd_Tape_areSigns_27 (by decide) (gh_r0 rfl) ?_
        refine gh_jle (tgt := 34) gd_Tape_areSigns_29 (by decide) (fun c319 => ?_) (fun c319 => ?_)
        · have hz : True := trivial
          exact k315 (Or.inr ⟨c318, c319⟩)
        · have hz : True := trivial
          exact k316 (fun z => z.elim c317 (fun z => c319 z.2))
  · have h := hB c313
    refine gh_iconst gd_Tape_areSigns_40 (gh_r0 rfl) ?_
    exact gh_ret8 rfl gd_Tape_areSigns_41 (by decide) ⟨rfl, h⟩
theorem s_Tape_areSigns {E : gh_E} {m : gh_M} {Q : Int → Prop} (d : Nat) (v0 : Int) (hF : gh_F m) (h : w_Tape_areSigns v0 m Q) : gh_C E gh_yTape_areSigns prog_10_method_2_code 3 (some .boolean) 8 (d + 0) [(0, v0)] m (fun r m1 => m1 = m ∧ Q r) := by
  refine gh_enter2 (L := [(0, 0, v0)]) (by decide +kernel) gh_rt8 (Nat.le_of_ble_eq_true rfl) rfl rfl ?_
  unfold w_Tape_areSigns at h
  refine gh_iconst gd_Tape_areSigns_0 (gh_r0 rfl) ?_
  refine gh_istore_n (L2 := [(1, 0, 0), (0, 0, v0)]) gd_Tape_areSigns_1 (by decide) rfl ?_
  refine gh_pick (L2 := [(0, 0, v0), (1, 0, 0)]) [1, 0] rfl ?_
  exact gh_L1_sound (T := fun v1 => gh_T E (gh_yTape_areSigns.cls, prog_10_method_2_code, 3, false, 8) (d + 0) 2 [(0, 0, v0), (1, 0, v1)] [] m (fun r m1 => m1 = m ∧ Q r)) (fun _ => gh_F m) (fun K2 v1 hK hF h => b_Tape_areSigns_2 d hK v1 hF h) 0 hF h
def f_Tape_signsIn_4 (v0 : Int) (Q : Int → Prop) (m : gh_M) (K4 : Int → Int → Prop) (v1 : Int) (v2 : Int) : Prop := ((v2 < 32 → ∃ J23 : Int → Prop, (∀ (v1' : Int), J23 v1' → gh_i (v2 + 8) ∧ K4 v1' (v2 + 8)) ∧ (((gh_iand_f (gh_iushr_f v0 v2) 255) = 0 → J23 v1) ∧ (¬ ((gh_iand_f (gh_iushr_f v0 v2) 255) = 0) → gh_i (v1 + 1) ∧ J23 (v1 + 1)))) ∧ (¬ (v2 < 32) → Q v1))
def w_Tape_signsIn (v0 : Int) (m : gh_M) (Q : Int → Prop) : Prop := gh_L2 (fun K4 v1 v2 => f_Tape_signsIn_4 v0 Q m K4 v1 v2) 0 0
theorem b_Tape_signsIn_4 {E : gh_E} {v0 : Int} {Q : Int → Prop} {K4 : Int → Int → Prop} (d : Nat) {m : gh_M} (hK : ∀ (v1 : Int) (v2 : Int), gh_F m → K4 v1 v2 → gh_T E (gh_yTape_signsIn.cls, prog_10_method_3_code, 3, false, 0) (d + 0) 4 [(0, 0, v0), (1, 0, v1), (2, 0, v2)] [] m (fun r m1 => m1 = m ∧ Q r)) (v1 : Int) (v2 : Int) (hF : gh_F m) (h : f_Tape_signsIn_4 v0 Q m K4 v1 v2) : gh_T E (gh_yTape_signsIn.cls, prog_10_method_3_code, 3, false, 0) (d + 0) 4 [(0, 0, v0), (1, 0, v1), (2, 0, v2)] [] m (fun r m1 => m1 = m ∧ Q r) := by
  have hK4 := hK
  unfold f_Tape_signsIn_4 at h
  refine gh_iload_n gd_Tape_signsIn_4 2 rfl ?_
  refine gh_bipush gd_Tape_signsIn_5 (by decide) (gh_r0 rfl) ?_
  obtain ⟨hA, hB⟩ := h
  refine gh_jge (tgt := 29) gd_Tape_signsIn_7 (by decide) (fun c320 => ?_) (fun c320 => ?_)
  · have h := hA c320
    refine gh_iload_n gd_Tape_signsIn_10 0 rfl ?_
    refine gh_iload_n gd_Tape_signsIn_11 2 rfl ?_
    refine gh_iushr gd_Tape_signsIn_12 ?_
    refine gh_sipush gd_Tape_signsIn_13 (by decide) (gh_r0 rfl) ?_
    refine gh_iand gd_Tape_signsIn_16 ?_
    obtain ⟨J23, hJ23, h⟩ := h
    have hJ23 : ∀ (v1' : Int), gh_F m → J23 v1' → gh_T E (gh_yTape_signsIn.cls, prog_10_method_3_code, 3, false, 0) (d + 0) 23 [(0, 0, v0), (1, 0, v1'), (2, 0, v2)] [] m (fun r m1 => m1 = m ∧ Q r) := by
      intro v1' hF hj
      have h := hJ23 v1' hj
      obtain ⟨q321, h⟩ := h
      refine gh_iinc (L2 := [(2, 0, v2 + 8), (0, 0, v0), (1, 0, v1')]) gd_Tape_signsIn_23 2 rfl q321 (by decide) rfl ?_
      refine gh_goto (tgt := 4) gd_Tape_signsIn_26 (by decide) ?_
      refine gh_pick (L2 := [(0, 0, v0), (1, 0, v1'), (2, 0, v2 + 8)]) [1, 2, 0] rfl ?_
      exact hK4 v1' (v2 + 8) hF h
    obtain ⟨hA, hB⟩ := h
    refine gh_zeq (tgt := 23) gd_Tape_signsIn_17 (by decide) (fun c322 => ?_) (fun c322 => ?_)
    · have h := hA c322
      exact hJ23 v1 hF h
    · have h := hB c322
      obtain ⟨q323, h⟩ := h
      refine gh_iinc (L2 := [(1, 0, v1 + 1), (0, 0, v0), (2, 0, v2)]) gd_Tape_signsIn_20 1 rfl q323 (by decide) rfl ?_
      refine gh_pick (L2 := [(0, 0, v0), (1, 0, v1 + 1), (2, 0, v2)]) [1, 0, 2] rfl ?_
      exact hJ23 (v1 + 1) hF h
  · have h := hB c320
    refine gh_iload_n gd_Tape_signsIn_29 1 rfl ?_
    exact gh_ret0 rfl gd_Tape_signsIn_30 ⟨rfl, h⟩
theorem s_Tape_signsIn {E : gh_E} {m : gh_M} {Q : Int → Prop} (d : Nat) (v0 : Int) (hF : gh_F m) (h : w_Tape_signsIn v0 m Q) : gh_C E gh_yTape_signsIn prog_10_method_3_code 3 (some .int) 0 (d + 0) [(0, v0)] m (fun r m1 => m1 = m ∧ Q r) := by
  refine gh_enter2 (L := [(0, 0, v0)]) (by decide +kernel) gh_rt0 (Nat.le_of_ble_eq_true rfl) rfl rfl ?_
  unfold w_Tape_signsIn at h
  refine gh_iconst gd_Tape_signsIn_0 (gh_r0 rfl) ?_
  refine gh_istore_n (L2 := [(1, 0, 0), (0, 0, v0)]) gd_Tape_signsIn_1 (by decide) rfl ?_
  refine gh_iconst gd_Tape_signsIn_2 (gh_r0 rfl) ?_
  refine gh_istore_n (L2 := [(2, 0, 0), (1, 0, 0), (0, 0, v0)]) gd_Tape_signsIn_3 (by decide) rfl ?_
  refine gh_pick (L2 := [(0, 0, v0), (1, 0, 0), (2, 0, 0)]) [2, 1, 0] rfl ?_
  exact gh_L2_sound (T := fun v1 v2 => gh_T E (gh_yTape_signsIn.cls, prog_10_method_3_code, 3, false, 0) (d + 0) 4 [(0, 0, v0), (1, 0, v1), (2, 0, v2)] [] m (fun r m1 => m1 = m ∧ Q r)) (fun _ _ => gh_F m) (fun K4 v1 v2 hK hF h => b_Tape_signsIn_4 d hK v1 v2 hF h) 0 0 hF h
def f_Tape_append_2 (v1 : Int) (Q : Int → gh_M → Prop) (K2 : Int → gh_M → Prop) (v2 : Int) (m : gh_M) : Prop := ((v2 < 32 → ∀ v3 : Int, v3 = gh_iand_f (gh_iushr_f v1 v2) 255 → ∃ J50 : gh_M → Prop, (∀ (m : gh_M), J50 m → gh_i (v2 + 8) ∧ K2 (v2 + 8) m) ∧ (((¬ (v3 = 0) ∧ ((m 3 1) < 240)) → 0 ≤ m 3 1 ∧ (m 3 1) < 240 ∧ gh_i ((m 3 1) + 1) ∧ J50 (gh_u (gh_u m 4 (m 3 1) v3) 3 1 ((m 3 1) + 1))) ∧ (¬ (¬ (v3 = 0) ∧ ((m 3 1) < 240)) → J50 m))) ∧ (¬ (v2 < 32) → Q 0 m))
def w_Tape_append (v1 : Int) (m : gh_M) (Q : Int → gh_M → Prop) : Prop := gh_M1 (fun K2 v2 m => f_Tape_append_2 v1 Q K2 v2 m) 0 m
theorem b_Tape_append_2 {E : gh_E} {v1 : Int} {Q : Int → gh_M → Prop} {K2 : Int → gh_M → Prop} (d : Nat) (hK : ∀ (v2 : Int) (m : gh_M), gh_F m → K2 v2 m → gh_T E (gh_yTape_append.cls, prog_10_method_4_code, 4, false, 9) (d + 0) 2 [(0, 2, 3), (1, 0, v1), (2, 0, v2)] [] m (fun r m1 => gh_F m1 ∧ Q r m1)) (v2 : Int) (m : gh_M) (hF : gh_F m) (h : f_Tape_append_2 v1 Q K2 v2 m) : gh_T E (gh_yTape_append.cls, prog_10_method_4_code, 4, false, 9) (d + 0) 2 [(0, 2, 3), (1, 0, v1), (2, 0, v2)] [] m (fun r m1 => gh_F m1 ∧ Q r m1) := by
  have hK2 := hK
  unfold f_Tape_append_2 at h
  refine gh_iload_n gd_Tape_append_2 2 rfl ?_
  refine gh_bipush gd_Tape_append_3 (by decide) (gh_r0 rfl) ?_
  obtain ⟨hA, hB⟩ := h
  refine gh_jge (tgt := 56) gd_Tape_append_5 (by decide) (fun c324 => ?_) (fun c324 => ?_)
  · have h := hA c324
    refine gh_iload_n gd_Tape_append_8 1 rfl ?_
    refine gh_iload_n gd_Tape_append_9 2 rfl ?_
    refine gh_iushr gd_Tape_append_10 ?_
    refine gh_sipush gd_Tape_append_11 (by decide) (gh_r0 rfl) ?_
    refine gh_iand gd_Tape_append_14 ?_
    refine gh_name (fun v3 hn => ?_)
    have h := h v3 hn
    refine gh_istore_n (L2 := [(3, 0, v3), (0, 2, 3), (1, 0, v1), (2, 0, v2)]) gd_Tape_append_15 (by decide) rfl ?_
    refine gh_iload_n gd_Tape_append_16 0 rfl ?_
    obtain ⟨J50, hJ50, h⟩ := h
    have hJ50 : ∀ (m : gh_M), gh_F m → J50 m → gh_T E (gh_yTape_append.cls, prog_10_method_4_code, 4, false, 9) (d + 0) 50 [(0, 2, 3), (1, 0, v1), (2, 0, v2)] [] m (fun r m1 => gh_F m1 ∧ Q r m1) := by
      intro m hF hj
      have h := hJ50 m hj
      obtain ⟨q325, h⟩ := h
      refine gh_iinc (L2 := [(2, 0, v2 + 8), (0, 2, 3), (1, 0, v1)]) gd_Tape_append_50 2 rfl q325 (by decide) rfl ?_
      refine gh_goto (tgt := 2) gd_Tape_append_53 (by decide) ?_
      refine gh_pick (L2 := [(0, 2, 3), (1, 0, v1), (2, 0, v2 + 8)]) [1, 2, 0] rfl ?_
      exact hK2 (v2 + 8) m hF h
    obtain ⟨hA, hB⟩ := h
    have k326 : (¬ (v3 = 0) ∧ ((m 3 1) < 240)) → gh_T E (gh_yTape_append.cls, prog_10_method_4_code, 4, false, 9) (d + 0) 30 [(3, 0, v3), (0, 2, 3), (1, 0, v1), (2, 0, v2)] [] m (fun r m1 => gh_F m1 ∧ Q r m1) := by
      intro c
      have h := hA c
      refine gh_aload_n gd_Tape_append_30 1 rfl (by decide) ?_
      refine gf_3_0 gd_Tape_append_31 gh_k161 hF ?_
      refine gh_aload_n gd_Tape_append_34 1 rfl (by decide) ?_
      refine gf_3_1 gd_Tape_append_35 gh_k163 hF rfl ?_
      refine gh_iload_n gd_Tape_append_38 0 rfl ?_
      obtain ⟨q328, h⟩ := h
      obtain ⟨q329, h⟩ := h
      refine sa_4 gd_Tape_append_39 hF q328 q329 (fun hF => ?_)
      refine gh_aload_n gd_Tape_append_40 1 rfl (by decide) ?_
      refine gh_dup gd_Tape_append_41 (by decide) ?_
      refine gf_3_1 gd_Tape_append_42 gh_k163 hF (gh_u_a (by decide)) ?_
      refine gh_iconst gd_Tape_append_45 (gh_r0 rfl) ?_
      obtain ⟨q330, h⟩ := h
      refine gh_iadd gd_Tape_append_46 q330 ?_
      refine pf_3_1 gd_Tape_append_47 gh_k163 hF (fun hF => ?_)
      refine gh_pick (L2 := [(0, 2, 3), (1, 0, v1), (2, 0, v2)]) [1, 2, 3] rfl ?_
      exact hJ50 (gh_u (gh_u m 4 (m 3 1) v3) 3 1 ((m 3 1) + 1)) hF h
    have k327 : ¬ (¬ (v3 = 0) ∧ ((m 3 1) < 240)) → gh_T E (gh_yTape_append.cls, prog_10_method_4_code, 4, false, 9) (d + 0) 50 [(3, 0, v3), (0, 2, 3), (1, 0, v1), (2, 0, v2)] [] m (fun r m1 => gh_F m1 ∧ Q r m1) := by
      intro c
      have h := hB c
      refine gh_pick (L2 := [(0, 2, 3), (1, 0, v1), (2, 0, v2)]) [1, 2, 3] rfl ?_
      exact hJ50 m hF h
    refine gh_zeq (tgt := 50) gd_Tape_append_17 (by decide) (fun c331 => ?_) (fun c331 => ?_)
    · have hz : True := trivial
      exact k327 (fun z => z.1 c331)
    · have hz : True := trivial
      refine gh_aload_n gd_Tape_append_20 1 rfl (by decide) ?_
      refine gf_3_1 gd_Tape_append_21 gh_k163 hF rfl ?_
      refine gh_sipush gd_Tape_append_24 (by decide) (gh_r0 rfl) ?_
      refine gh_jge (tgt := 50) gd_Tape_append_27 (by decide) (fun c332 => ?_) (fun c332 => ?_)
      · have hz : True := trivial
        exact k326 ⟨c331, c332⟩
      · have hz : True := trivial
        exact k327 (fun z => c332 z.2)
  · have h := hB c324
    exact gh_ret9 rfl gd_Tape_append_56 ⟨hF, h⟩
theorem s_Tape_append {E : gh_E} {m : gh_M} {Q : Int → gh_M → Prop} (d : Nat) (v1 : Int) (hF : gh_F m) (h : w_Tape_append v1 m Q) : gh_C E gh_yTape_append prog_10_method_4_code 4 none 9 (d + 0) [(2, 3), (0, v1)] m (fun r m1 => gh_F m1 ∧ Q r m1) := by
  refine gh_enter2 (L := [(0, 2, 3), (1, 0, v1)]) (by decide +kernel) gh_rt9 (Nat.le_of_ble_eq_true rfl) rfl rfl ?_
  unfold w_Tape_append at h
  refine gh_iconst gd_Tape_append_0 (gh_r0 rfl) ?_
  refine gh_istore_n (L2 := [(2, 0, 0), (0, 2, 3), (1, 0, v1)]) gd_Tape_append_1 (by decide) rfl ?_
  refine gh_pick (L2 := [(0, 2, 3), (1, 0, v1), (2, 0, 0)]) [1, 2, 0] rfl ?_
  exact gh_M1_sound (T := fun v2 m => gh_T E (gh_yTape_append.cls, prog_10_method_4_code, 4, false, 9) (d + 0) 2 [(0, 2, 3), (1, 0, v1), (2, 0, v2)] [] m (fun r m1 => gh_F m1 ∧ Q r m1)) (fun _ m => gh_F m) (fun K2 v2 m hK hF h => b_Tape_append_2 d hK v2 m hF h) 0 m hF h
def w_House_type (v1 : Int) (v2 : Int) (v3 : Int) (v4 : Int) (v5 : Int) (m : gh_M) (Q : Int → gh_M → Prop) : Prop := w_Tape_areSigns v1 m (fun r333 => ((r333 = 0 → Q (-1002) m) ∧ (¬ (r333 = 0) → w_Tape_areSigns v2 m (fun r336 => ((r336 = 0 → Q (-1002) m) ∧ (¬ (r336 = 0) → w_Tape_areSigns v3 m (fun r339 => ((r339 = 0 → Q (-1002) m) ∧ (¬ (r339 = 0) → w_Tape_areSigns v4 m (fun r342 => ((r342 = 0 → Q (-1002) m) ∧ (¬ (r342 = 0) → w_Tape_areSigns v5 m (fun r345 => ((r345 = 0 → Q (-1002) m) ∧ (¬ (r345 = 0) → w_Tape_signsIn v1 m (fun r348 => w_Tape_signsIn v2 m (fun r350 => gh_i (r348 + r350) ∧ w_Tape_signsIn v3 m (fun r353 => gh_i ((r348 + r350) + r353) ∧ w_Tape_signsIn v4 m (fun r356 => gh_i (((r348 + r350) + r353) + r356) ∧ w_Tape_signsIn v5 m (fun r359 => gh_i ((((r348 + r350) + r353) + r356) + r359) ∧ ∀ v6 : Int, v6 = (((r348 + r350) + r353) + r356) + r359 → gh_i ((m 3 1) + v6) ∧ ((((m 3 1) + v6) ≤ 240 → w_Tape_append v1 m (fun _ m365 => w_Tape_append v2 m365 (fun _ m367 => w_Tape_append v3 m367 (fun _ m369 => w_Tape_append v4 m369 (fun _ m371 => w_Tape_append v5 m371 (fun _ m373 => Q (m373 3 1) m373)))))) ∧ (¬ (((m 3 1) + v6) ≤ 240) → Q (-1004) m))))))))))))))))))))))
theorem s_House_type {E : gh_E} {m : gh_M} {Q : Int → gh_M → Prop} (d : Nat) (v1 : Int) (v2 : Int) (v3 : Int) (v4 : Int) (v5 : Int) (hF : gh_F m) (h : w_House_type v1 v2 v3 v4 v5 m Q) : gh_C E gh_yHouse_type prog_1_method_2_code 7 (some .int) 0 (d + 1) [(2, 2), (0, v1), (0, v2), (0, v3), (0, v4), (0, v5)] m (fun r m1 => gh_F m1 ∧ Q r m1) := by
  refine gh_enter2 (L := [(0, 2, 2), (1, 0, v1), (2, 0, v2), (3, 0, v3), (4, 0, v4), (5, 0, v5)]) (by decide +kernel) gh_rt0 (Nat.le_of_ble_eq_true rfl) rfl rfl ?_
  unfold w_House_type at h
  refine gh_iload_n gd_House_type_0 1 rfl ?_
  refine cv_Tape_areSigns (d := d) gd_House_type_1 gh_k671 (Nat.le_of_ble_eq_true rfl) (gh_C.pw (s_Tape_areSigns d v1 hF h) (fun r333 h => ?_))
  obtain ⟨hA, hB⟩ := h
  refine gh_zeq (tgt := 37) gd_House_type_4 (by decide) (fun c335 => ?_) (fun c335 => ?_)
  · have h := hA c335
    refine gh_sipush gd_House_type_37 (by decide) (gh_r0 rfl) ?_
    exact gh_ret0 rfl gd_House_type_40 ⟨hF, h⟩
  · have h := hB c335
    refine gh_iload_n gd_House_type_7 2 rfl ?_
    refine cv_Tape_areSigns (d := d) gd_House_type_8 gh_k671 (Nat.le_of_ble_eq_true rfl) (gh_C.pw (s_Tape_areSigns d v2 hF h) (fun r336 h => ?_))
    obtain ⟨hA, hB⟩ := h
    refine gh_zeq (tgt := 37) gd_House_type_11 (by decide) (fun c338 => ?_) (fun c338 => ?_)
    · have h := hA c338
      refine gh_sipush gd_House_type_37 (by decide) (gh_r0 rfl) ?_
      exact gh_ret0 rfl gd_House_type_40 ⟨hF, h⟩
    · have h := hB c338
      refine gh_iload_n gd_House_type_14 3 rfl ?_
      refine cv_Tape_areSigns (d := d) gd_House_type_15 gh_k671 (Nat.le_of_ble_eq_true rfl) (gh_C.pw (s_Tape_areSigns d v3 hF h) (fun r339 h => ?_))
      obtain ⟨hA, hB⟩ := h
      refine gh_zeq (tgt := 37) gd_House_type_18 (by decide) (fun c341 => ?_) (fun c341 => ?_)
      · have h := hA c341
        refine gh_sipush gd_House_type_37 (by decide) (gh_r0 rfl) ?_
        exact gh_ret0 rfl gd_House_type_40 ⟨hF, h⟩
      · have h := hB c341
        refine gh_iload gd_House_type_21 4 rfl ?_
        refine cv_Tape_areSigns (d := d) gd_House_type_23 gh_k671 (Nat.le_of_ble_eq_true rfl) (gh_C.pw (s_Tape_areSigns d v4 hF h) (fun r342 h => ?_))
        obtain ⟨hA, hB⟩ := h
        refine gh_zeq (tgt := 37) gd_House_type_26 (by decide) (fun c344 => ?_) (fun c344 => ?_)
        · have h := hA c344
          refine gh_sipush gd_House_type_37 (by decide) (gh_r0 rfl) ?_
          exact gh_ret0 rfl gd_House_type_40 ⟨hF, h⟩
        · have h := hB c344
          refine gh_iload gd_House_type_29 5 rfl ?_
          refine cv_Tape_areSigns (d := d) gd_House_type_31 gh_k671 (Nat.le_of_ble_eq_true rfl) (gh_C.pw (s_Tape_areSigns d v5 hF h) (fun r345 h => ?_))
          obtain ⟨hA, hB⟩ := h
          refine gh_zne (tgt := 41) gd_House_type_34 (by decide) (fun c347 => ?_) (fun c347 => ?_)
          · have h := hA c347
            refine gh_sipush gd_House_type_37 (by decide) (gh_r0 rfl) ?_
            exact gh_ret0 rfl gd_House_type_40 ⟨hF, h⟩
          · have h := hB c347
            refine gh_iload_n gd_House_type_41 1 rfl ?_
            refine cv_Tape_signsIn (d := d) gd_House_type_42 gh_k674 (Nat.le_of_ble_eq_true rfl) (gh_C.pw (s_Tape_signsIn d v1 hF h) (fun r348 h => ?_))
            refine gh_iload_n gd_House_type_45 2 rfl ?_
            refine cv_Tape_signsIn (d := d) gd_House_type_46 gh_k674 (Nat.le_of_ble_eq_true rfl) (gh_C.pw (s_Tape_signsIn d v2 hF h) (fun r350 h => ?_))
            obtain ⟨q352, h⟩ := h
            refine gh_iadd gd_House_type_49 q352 ?_
            refine gh_iload_n gd_House_type_50 3 rfl ?_
            refine cv_Tape_signsIn (d := d) gd_House_type_51 gh_k674 (Nat.le_of_ble_eq_true rfl) (gh_C.pw (s_Tape_signsIn d v3 hF h) (fun r353 h => ?_))
            obtain ⟨q355, h⟩ := h
            refine gh_iadd gd_House_type_54 q355 ?_
            refine gh_iload gd_House_type_55 4 rfl ?_
            refine cv_Tape_signsIn (d := d) gd_House_type_57 gh_k674 (Nat.le_of_ble_eq_true rfl) (gh_C.pw (s_Tape_signsIn d v4 hF h) (fun r356 h => ?_))
            obtain ⟨q358, h⟩ := h
            refine gh_iadd gd_House_type_60 q358 ?_
            refine gh_iload gd_House_type_61 5 rfl ?_
            refine cv_Tape_signsIn (d := d) gd_House_type_63 gh_k674 (Nat.le_of_ble_eq_true rfl) (gh_C.pw (s_Tape_signsIn d v5 hF h) (fun r359 h => ?_))
            obtain ⟨q361, h⟩ := h
            refine gh_iadd gd_House_type_66 q361 ?_
            refine gh_name (fun v6 hn => ?_)
            have h := h v6 hn
            refine gh_istore (L2 := [(6, 0, v6), (0, 2, 2), (1, 0, v1), (2, 0, v2), (3, 0, v3), (4, 0, v4), (5, 0, v5)]) gd_House_type_67 (by decide) rfl ?_
            refine gh_aload_n gd_House_type_69 1 rfl (by decide) ?_
            refine gf_2_0 gd_House_type_70 gh_k633 hF ?_
            refine gf_3_1 gd_House_type_73 gh_k162 hF rfl ?_
            refine gh_iload gd_House_type_76 0 rfl ?_
            obtain ⟨q362, h⟩ := h
            refine gh_iadd gd_House_type_78 q362 ?_
            refine gh_sipush gd_House_type_79 (by decide) (gh_r0 rfl) ?_
            obtain ⟨hA, hB⟩ := h
            refine gh_jle (tgt := 89) gd_House_type_82 (by decide) (fun c363 => ?_) (fun c363 => ?_)
            · have h := hA c363
              refine gh_aload_n gd_House_type_89 1 rfl (by decide) ?_
              refine gf_2_0 gd_House_type_90 gh_k633 hF ?_
              refine gh_iload_n gd_House_type_93 2 rfl ?_
              refine cv_Tape_append (d := d) gd_House_type_94 gh_k677 hF (Nat.le_of_ble_eq_true rfl) (gh_C.mono (s_Tape_append d v1 hF h) (fun r364 m365 hq => ?_))
              obtain ⟨hF, h⟩ := hq
              refine gh_aload_n gd_House_type_97 1 rfl (by decide) ?_
              refine gf_2_0 gd_House_type_98 gh_k633 hF ?_
              refine gh_iload_n gd_House_type_101 3 rfl ?_
              refine cv_Tape_append (d := d) gd_House_type_102 gh_k677 hF (Nat.le_of_ble_eq_true rfl) (gh_C.mono (s_Tape_append d v2 hF h) (fun r366 m367 hq => ?_))
              obtain ⟨hF, h⟩ := hq
              refine gh_aload_n gd_House_type_105 1 rfl (by decide) ?_
              refine gf_2_0 gd_House_type_106 gh_k633 hF ?_
              refine gh_iload_n gd_House_type_109 4 rfl ?_
              refine cv_Tape_append (d := d) gd_House_type_110 gh_k677 hF (Nat.le_of_ble_eq_true rfl) (gh_C.mono (s_Tape_append d v3 hF h) (fun r368 m369 hq => ?_))
              obtain ⟨hF, h⟩ := hq
              refine gh_aload_n gd_House_type_113 1 rfl (by decide) ?_
              refine gf_2_0 gd_House_type_114 gh_k633 hF ?_
              refine gh_iload gd_House_type_117 5 rfl ?_
              refine cv_Tape_append (d := d) gd_House_type_119 gh_k677 hF (Nat.le_of_ble_eq_true rfl) (gh_C.mono (s_Tape_append d v4 hF h) (fun r370 m371 hq => ?_))
              obtain ⟨hF, h⟩ := hq
              refine gh_aload_n gd_House_type_122 1 rfl (by decide) ?_
              refine gf_2_0 gd_House_type_123 gh_k633 hF ?_
              refine gh_iload gd_House_type_126 6 rfl ?_
              refine cv_Tape_append (d := d) gd_House_type_128 gh_k677 hF (Nat.le_of_ble_eq_true rfl) (gh_C.mono (s_Tape_append d v5 hF h) (fun r372 m373 hq => ?_))
              obtain ⟨hF, h⟩ := hq
              refine gh_aload_n gd_House_type_131 1 rfl (by decide) ?_
              refine gf_2_0 gd_House_type_132 gh_k633 hF ?_
              refine gf_3_1 gd_House_type_135 gh_k162 hF rfl ?_
              exact gh_ret0 rfl gd_House_type_138 ⟨hF, h⟩
            · have h := hB c363
              refine gh_sipush gd_House_type_85 (by decide) (gh_r0 rfl) ?_
              exact gh_ret0 rfl gd_House_type_88 ⟨hF, h⟩
def w_House_wipe (m : gh_M) (Q : Int → gh_M → Prop) : Prop := ∀ v1 : Int, v1 = m 3 1 → Q v1 (gh_u m 3 1 0)
theorem s_House_wipe {E : gh_E} {m : gh_M} {Q : Int → gh_M → Prop} (d : Nat) (hF : gh_F m) (h : w_House_wipe m Q) : gh_C E gh_yHouse_wipe prog_1_method_3_code 2 (some .int) 0 (d + 0) [(2, 2)] m (fun r m1 => gh_F m1 ∧ Q r m1) := by
  refine gh_enter2 (L := [(0, 2, 2)]) (by decide +kernel) gh_rt0 (Nat.le_of_ble_eq_true rfl) rfl rfl ?_
  unfold w_House_wipe at h
  refine gh_aload_n gd_House_wipe_0 0 rfl (by decide) ?_
  refine gf_2_0 gd_House_wipe_1 gh_k633 hF ?_
  refine gf_3_1 gd_House_wipe_4 gh_k162 hF rfl ?_
  refine gh_name (fun v1 hn => ?_)
  have h := h v1 hn
  refine gh_istore_n (L2 := [(1, 0, v1), (0, 2, 2)]) gd_House_wipe_7 (by decide) rfl ?_
  refine gh_aload_n gd_House_wipe_8 1 rfl (by decide) ?_
  refine gf_2_0 gd_House_wipe_9 gh_k633 hF ?_
  refine gh_iconst gd_House_wipe_12 (gh_r0 rfl) ?_
  refine pf_3_1 gd_House_wipe_13 gh_k162 hF (fun hF => ?_)
  refine gh_iload_n gd_House_wipe_16 0 rfl ?_
  exact gh_ret0 rfl gd_House_wipe_17 ⟨hF, h⟩
def w_Draft_clear (m : gh_M) (Q : Int → gh_M → Prop) : Prop := Q 0 (gh_u (gh_u (gh_u m 6 1 0) 6 2 0) 6 3 0)
theorem s_Draft_clear {E : gh_E} {m : gh_M} {Q : Int → gh_M → Prop} (d : Nat) (hF : gh_F m) (h : w_Draft_clear m Q) : gh_C E gh_yDraft_clear prog_3_method_2_code 1 none 9 (d + 0) [(2, 6)] m (fun r m1 => gh_F m1 ∧ Q r m1) := by
  refine gh_enter2 (L := [(0, 2, 6)]) (by decide +kernel) gh_rt9 (Nat.le_of_ble_eq_true rfl) rfl rfl ?_
  unfold w_Draft_clear at h
  refine gh_aload_n gd_Draft_clear_0 0 rfl (by decide) ?_
  refine gh_iconst gd_Draft_clear_1 (gh_r0 rfl) ?_
  refine pf_6_1 gd_Draft_clear_2 gh_k194 hF (fun hF => ?_)
  refine gh_aload_n gd_Draft_clear_5 0 rfl (by decide) ?_
  refine gh_iconst gd_Draft_clear_6 (gh_r0 rfl) ?_
  refine pf_6_2 gd_Draft_clear_7 gh_k196 hF (fun hF => ?_)
  refine gh_aload_n gd_Draft_clear_10 0 rfl (by decide) ?_
  refine gh_iconst gd_Draft_clear_11 (gh_r0 rfl) ?_
  refine pf_6_3 gd_Draft_clear_12 gh_k197 hF (fun hF => ?_)
  exact gh_ret9 rfl gd_Draft_clear_15 ⟨hF, h⟩
def w_Tape_rewind (m : gh_M) (Q : Int → gh_M → Prop) : Prop := Q 0 (gh_u m 3 4 0)
theorem s_Tape_rewind {E : gh_E} {m : gh_M} {Q : Int → gh_M → Prop} (d : Nat) (hF : gh_F m) (h : w_Tape_rewind m Q) : gh_C E gh_yTape_rewind prog_10_method_6_code 1 none 9 (d + 0) [(2, 3)] m (fun r m1 => gh_F m1 ∧ Q r m1) := by
  refine gh_enter2 (L := [(0, 2, 3)]) (by decide +kernel) gh_rt9 (Nat.le_of_ble_eq_true rfl) rfl rfl ?_
  unfold w_Tape_rewind at h
  refine gh_aload_n gd_Tape_rewind_0 0 rfl (by decide) ?_
  refine gh_iconst gd_Tape_rewind_1 (gh_r0 rfl) ?_
  refine pf_3_4 gd_Tape_rewind_2 gh_k168 hF (fun hF => ?_)
  exact gh_ret9 rfl gd_Tape_rewind_5 ⟨hF, h⟩
def f_Tape_lookAtName_0 (Q : Int → gh_M → Prop) (K0 : gh_M → Prop) (m : gh_M) : Prop := ∃ J38 : gh_M → Prop, (∀ (m : gh_M), J38 m → gh_i ((m 3 4) - (m 3 3)) ∧ Q 0 (gh_u m 3 2 (if ((m 3 4) - (m 3 3)) ≤ 3 then 1 else 5))) ∧ ((((m 3 4) < (m 3 1)) → (k_Tape_signAt (m 3 4) m))) ∧ (((((m 3 4) < (m 3 1)) ∧ ((¬ ((x_Tape_signAt (m 3 4) m) < 48) ∧ ((x_Tape_signAt (m 3 4) m) ≤ 57)))) → gh_i ((m 3 4) + 1) ∧ K0 (gh_u m 3 4 ((m 3 4) + 1))) ∧ (¬ (((m 3 4) < (m 3 1)) ∧ ((¬ ((x_Tape_signAt (m 3 4) m) < 48) ∧ ((x_Tape_signAt (m 3 4) m) ≤ 57)))) → J38 m))
def w_Tape_lookAtName (m : gh_M) (Q : Int → gh_M → Prop) : Prop := gh_M0 (fun K0 m => f_Tape_lookAtName_0 Q K0 m) m
theorem b_Tape_lookAtName_0 {E : gh_E} {Q : Int → gh_M → Prop} {K0 : gh_M → Prop} (d : Nat) (hK : ∀ (m : gh_M), gh_F m → K0 m → gh_T E (gh_yTape_lookAtName.cls, prog_10_method_8_code, 1, false, 9) (d + 1) 0 [(0, 2, 3)] [] m (fun r m1 => gh_F m1 ∧ Q r m1)) (m : gh_M) (hF : gh_F m) (h : f_Tape_lookAtName_0 Q K0 m) : gh_T E (gh_yTape_lookAtName.cls, prog_10_method_8_code, 1, false, 9) (d + 1) 0 [(0, 2, 3)] [] m (fun r m1 => gh_F m1 ∧ Q r m1) := by
  have hK0 := hK
  unfold f_Tape_lookAtName_0 at h
  refine gh_aload_n gd_Tape_lookAtName_0 0 rfl (by decide) ?_
  refine gf_3_4 gd_Tape_lookAtName_1 gh_k168 hF rfl ?_
  refine gh_aload_n gd_Tape_lookAtName_4 0 rfl (by decide) ?_
  refine gf_3_1 gd_Tape_lookAtName_5 gh_k163 hF rfl ?_
  obtain ⟨J38, hJ38, h⟩ := h
  have hJ38 : ∀ (m : gh_M), gh_F m → J38 m → gh_T E (gh_yTape_lookAtName.cls, prog_10_method_8_code, 1, false, 9) (d + 1) 38 [(0, 2, 3)] [] m (fun r m1 => gh_F m1 ∧ Q r m1) := by
    intro m hF hj
    have h := hJ38 m hj
    refine gh_aload_n gd_Tape_lookAtName_38 0 rfl (by decide) ?_
    refine gh_aload_n gd_Tape_lookAtName_39 0 rfl (by decide) ?_
    refine gf_3_4 gd_Tape_lookAtName_40 gh_k168 hF rfl ?_
    refine gh_aload_n gd_Tape_lookAtName_43 0 rfl (by decide) ?_
    refine gf_3_3 gd_Tape_lookAtName_44 gh_k167 hF rfl ?_
    obtain ⟨q374, h⟩ := h
    refine gh_isub gd_Tape_lookAtName_47 q374 ?_
    refine gh_iconst gd_Tape_lookAtName_48 (gh_r0 rfl) ?_
    have k375 : ∀ x376 : Int, x376 = (if ((m 3 4) - (m 3 3)) ≤ 3 then 1 else 5) → gh_T E (gh_yTape_lookAtName.cls, prog_10_method_8_code, 1, false, 9) (d + 1) 57 [(0, 2, 3)] [(0, x376), (2, 3)] m (fun r m1 => gh_F m1 ∧ Q r m1) := by
      rintro _ rfl
      refine pf_3_2 gd_Tape_lookAtName_57 gh_k165 hF (fun hF => ?_)
      exact gh_ret9 rfl gd_Tape_lookAtName_60 ⟨hF, h⟩
    refine gh_jgt (tgt := 56) gd_Tape_lookAtName_49 (by decide) (fun c377 => ?_) (fun c377 => ?_)
    · have hz : True := trivial
      refine gh_iconst gd_Tape_lookAtName_52 (gh_r0 rfl) ?_
      refine gh_goto (tgt := 57) gd_Tape_lookAtName_53 (by decide) ?_
      exact k375 _ (by rw [if_pos c377])
    · have hz : True := trivial
      refine gh_iconst gd_Tape_lookAtName_56 (gh_r0 rfl) ?_
      exact k375 _ (by rw [if_neg c377])
  obtain ⟨hk, hA, hB⟩ := h
  have k379 : (((m 3 4) < (m 3 1)) ∧ ((¬ ((x_Tape_signAt (m 3 4) m) < 48) ∧ ((x_Tape_signAt (m 3 4) m) ≤ 57)))) → gh_T E (gh_yTape_lookAtName.cls, prog_10_method_8_code, 1, false, 9) (d + 1) 25 [(0, 2, 3)] [] m (fun r m1 => gh_F m1 ∧ Q r m1) := by
    intro c
    have h := hA c
    refine gh_aload_n gd_Tape_lookAtName_25 0 rfl (by decide) ?_
    refine gh_dup gd_Tape_lookAtName_26 (by decide) ?_
    refine gf_3_4 gd_Tape_lookAtName_27 gh_k168 hF rfl ?_
    refine gh_iconst gd_Tape_lookAtName_30 (gh_r0 rfl) ?_
    obtain ⟨q381, h⟩ := h
    refine gh_iadd gd_Tape_lookAtName_31 q381 ?_
    refine pf_3_4 gd_Tape_lookAtName_32 gh_k168 hF (fun hF => ?_)
    refine gh_goto (tgt := 0) gd_Tape_lookAtName_35 (by decide) ?_
    exact hK0 (gh_u m 3 4 ((m 3 4) + 1)) hF h
  have k380 : ¬ (((m 3 4) < (m 3 1)) ∧ ((¬ ((x_Tape_signAt (m 3 4) m) < 48) ∧ ((x_Tape_signAt (m 3 4) m) ≤ 57)))) → gh_T E (gh_yTape_lookAtName.cls, prog_10_method_8_code, 1, false, 9) (d + 1) 38 [(0, 2, 3)] [] m (fun r m1 => gh_F m1 ∧ Q r m1) := by
    intro c
    have h := hB c
    exact hJ38 m hF h
  refine gh_jge (tgt := 38) gd_Tape_lookAtName_8 (by decide) (fun c382 => ?_) (fun c382 => ?_)
  · have hz : True := trivial
    have hk := hk c382
    refine gh_aload_n gd_Tape_lookAtName_11 0 rfl (by decide) ?_
    refine gh_aload_n gd_Tape_lookAtName_12 0 rfl (by decide) ?_
    refine gf_3_4 gd_Tape_lookAtName_13 gh_k168 hF rfl ?_
    have q378 := hk
    refine cv_Tape_signAt (d := d) gd_Tape_lookAtName_16 gh_k713 hF (Nat.le_of_ble_eq_true rfl) (gh_C.pe (e_Tape_signAt d (m 3 4) hF q378) ?_)
    refine cv_Tape_isFigure (d := d) gd_Tape_lookAtName_19 gh_k718 (Nat.le_of_ble_eq_true rfl) (gh_C.pe (e_Tape_isFigure d (x_Tape_signAt (m 3 4) m)) ?_)
    refine gh_beq (tgt := 38) gd_Tape_lookAtName_22 (by decide) (fun c383 => ?_) (fun c383 => ?_)
    · have hz : True := trivial
      exact k379 ⟨c382, c383⟩
    · have hz : True := trivial
      exact k380 (fun z => c383 z.2)
  · have hz : True := trivial
    exact k380 (fun z => c382 z.1)
theorem s_Tape_lookAtName {E : gh_E} {m : gh_M} {Q : Int → gh_M → Prop} (d : Nat) (hF : gh_F m) (h : w_Tape_lookAtName m Q) : gh_C E gh_yTape_lookAtName prog_10_method_8_code 1 none 9 (d + 1) [(2, 3)] m (fun r m1 => gh_F m1 ∧ Q r m1) := by
  refine gh_enter2 (L := [(0, 2, 3)]) (by decide +kernel) gh_rt9 (Nat.le_of_ble_eq_true rfl) rfl rfl ?_
  unfold w_Tape_lookAtName at h
  exact gh_M0_sound (T := fun m => gh_T E (gh_yTape_lookAtName.cls, prog_10_method_8_code, 1, false, 9) (d + 1) 0 [(0, 2, 3)] [] m (fun r m1 => gh_F m1 ∧ Q r m1)) (fun m => gh_F m) (fun K0 m hK hF h => b_Tape_lookAtName_0 d hK m hF h) m hF h
def f_Tape_lookAtQuote_0 (Q : Int → gh_M → Prop) (K0 : gh_M → Prop) (m : gh_M) : Prop := ∃ J38 : gh_M → Prop, (∀ (m : gh_M), J38 m → gh_i ((m 3 4) - (m 3 3)) ∧ gh_i (((m 3 4) - (m 3 3)) - 1) ∧ ∀ v1 : Int, v1 = ((m 3 4) - (m 3 3)) - 1 → k_Tape_signAt (m 3 4) m ∧ gh_i ((m 3 4) + 1) ∧ Q 0 (gh_u (gh_u m 3 2 (if (x_Tape_signAt (m 3 4) m) = 39 then (if v1 < 1 then 5 else (if v1 ≤ 3 then 2 else 5)) else 5)) 3 4 ((m 3 4) + 1))) ∧ ((((m 3 4) < (m 3 1)) → (k_Tape_signAt (m 3 4) m))) ∧ (((((m 3 4) < (m 3 1)) ∧ ((¬ ((x_Tape_signAt (m 3 4) m) < 97) ∧ ((x_Tape_signAt (m 3 4) m) ≤ 122)))) → gh_i ((m 3 4) + 1) ∧ K0 (gh_u m 3 4 ((m 3 4) + 1))) ∧ (¬ (((m 3 4) < (m 3 1)) ∧ ((¬ ((x_Tape_signAt (m 3 4) m) < 97) ∧ ((x_Tape_signAt (m 3 4) m) ≤ 122)))) → J38 m))
def w_Tape_lookAtQuote (m : gh_M) (Q : Int → gh_M → Prop) : Prop := gh_M0 (fun K0 m => f_Tape_lookAtQuote_0 Q K0 m) m
theorem b_Tape_lookAtQuote_0 {E : gh_E} {Q : Int → gh_M → Prop} {K0 : gh_M → Prop} (d : Nat) (hK : ∀ (m : gh_M), gh_F m → K0 m → gh_T E (gh_yTape_lookAtQuote.cls, prog_10_method_9_code, 2, false, 9) (d + 1) 0 [(0, 2, 3)] [] m (fun r m1 => gh_F m1 ∧ Q r m1)) (m : gh_M) (hF : gh_F m) (h : f_Tape_lookAtQuote_0 Q K0 m) : gh_T E (gh_yTape_lookAtQuote.cls, prog_10_method_9_code, 2, false, 9) (d + 1) 0 [(0, 2, 3)] [] m (fun r m1 => gh_F m1 ∧ Q r m1) := by
  have hK0 := hK
  unfold f_Tape_lookAtQuote_0 at h
  refine gh_aload_n gd_Tape_lookAtQuote_0 0 rfl (by decide) ?_
  refine gf_3_4 gd_Tape_lookAtQuote_1 gh_k168 hF rfl ?_
  refine gh_aload_n gd_Tape_lookAtQuote_4 0 rfl (by decide) ?_
  refine gf_3_1 gd_Tape_lookAtQuote_5 gh_k163 hF rfl ?_
  obtain ⟨J38, hJ38, h⟩ := h
  have hJ38 : ∀ (m : gh_M), gh_F m → J38 m → gh_T E (gh_yTape_lookAtQuote.cls, prog_10_method_9_code, 2, false, 9) (d + 1) 38 [(0, 2, 3)] [] m (fun r m1 => gh_F m1 ∧ Q r m1) := by
    intro m hF hj
    have h := hJ38 m hj
    refine gh_aload_n gd_Tape_lookAtQuote_38 0 rfl (by decide) ?_
    refine gf_3_4 gd_Tape_lookAtQuote_39 gh_k168 hF rfl ?_
    refine gh_aload_n gd_Tape_lookAtQuote_42 0 rfl (by decide) ?_
    refine gf_3_3 gd_Tape_lookAtQuote_43 gh_k167 hF rfl ?_
    obtain ⟨q384, h⟩ := h
    refine gh_isub gd_Tape_lookAtQuote_46 q384 ?_
    refine gh_iconst gd_Tape_lookAtQuote_47 (gh_r0 rfl) ?_
    obtain ⟨q385, h⟩ := h
    refine gh_isub gd_Tape_lookAtQuote_48 q385 ?_
    refine gh_name (fun v1 hn => ?_)
    have h := h v1 hn
    refine gh_istore_n (L2 := [(1, 0, v1), (0, 2, 3)]) gd_Tape_lookAtQuote_49 (by decide) rfl ?_
    refine gh_aload_n gd_Tape_lookAtQuote_50 1 rfl (by decide) ?_
    refine gh_aload_n gd_Tape_lookAtQuote_51 1 rfl (by decide) ?_
    refine gh_aload_n gd_Tape_lookAtQuote_52 1 rfl (by decide) ?_
    refine gf_3_4 gd_Tape_lookAtQuote_53 gh_k168 hF rfl ?_
    obtain ⟨q386, h⟩ := h
    refine cv_Tape_signAt (d := d) gd_Tape_lookAtQuote_56 gh_k713 hF (Nat.le_of_ble_eq_true rfl) (gh_C.pe (e_Tape_signAt d (m 3 4) hF q386) ?_)
    refine gh_bipush gd_Tape_lookAtQuote_59 (by decide) (gh_r0 rfl) ?_
    have k387 : ∀ x388 : Int, x388 = (if (x_Tape_signAt (m 3 4) m) = 39 then (if v1 < 1 then 5 else (if v1 ≤ 3 then 2 else 5)) else 5) → gh_T E (gh_yTape_lookAtQuote.cls, prog_10_method_9_code, 2, false, 9) (d + 1) 79 [(1, 0, v1), (0, 2, 3)] [(0, x388), (2, 3)] m (fun r m1 => gh_F m1 ∧ Q r m1) := by
      rintro _ rfl
      refine pf_3_2 gd_Tape_lookAtQuote_79 gh_k165 hF (fun hF => ?_)
      refine gh_aload_n gd_Tape_lookAtQuote_82 1 rfl (by decide) ?_
      refine gh_dup gd_Tape_lookAtQuote_83 (by decide) ?_
      refine gf_3_4 gd_Tape_lookAtQuote_84 gh_k168 hF (gh_u_i (by decide)) ?_
      refine gh_iconst gd_Tape_lookAtQuote_87 (gh_r0 rfl) ?_
      obtain ⟨q389, h⟩ := h
      refine gh_iadd gd_Tape_lookAtQuote_88 q389 ?_
      refine pf_3_4 gd_Tape_lookAtQuote_89 gh_k168 hF (fun hF => ?_)
      exact gh_ret9 rfl gd_Tape_lookAtQuote_92 ⟨hF, h⟩
    refine gh_jne (tgt := 78) gd_Tape_lookAtQuote_61 (by decide) (fun c390 => ?_) (fun c390 => ?_)
    · have hz : True := trivial
      refine gh_iload_n gd_Tape_lookAtQuote_64 0 rfl ?_
      refine gh_iconst gd_Tape_lookAtQuote_65 (gh_r0 rfl) ?_
      refine gh_jlt (tgt := 78) gd_Tape_lookAtQuote_66 (by decide) (fun c391 => ?_) (fun c391 => ?_)
      · have hz : True := trivial
        refine gh_iconst gd_Tape_lookAtQuote_78 (gh_r0 rfl) ?_
        exact k387 _ (by rw [if_pos c390, if_pos c391])
      · have hz : True := trivial
        refine gh_iload_n gd_Tape_lookAtQuote_69 0 rfl ?_
        refine gh_iconst gd_Tape_lookAtQuote_70 (gh_r0 rfl) ?_
        refine gh_jgt (tgt := 78) gd_Tape_lookAtQuote_71 (by decide) (fun c392 => ?_) (fun c392 => ?_)
        · have hz : True := trivial
          refine gh_iconst gd_Tape_lookAtQuote_74 (gh_r0 rfl) ?_
          refine gh_goto (tgt := 79) gd_Tape_lookAtQuote_75 (by decide) ?_
          exact k387 _ (by rw [if_pos c390, if_neg c391, if_pos c392])
        · have hz : True := trivial
          refine gh_iconst gd_Tape_lookAtQuote_78 (gh_r0 rfl) ?_
          exact k387 _ (by rw [if_pos c390, if_neg c391, if_neg c392])
    · have hz : True := trivial
      refine gh_iconst gd_Tape_lookAtQuote_78 (gh_r0 rfl) ?_
      exact k387 _ (by rw [if_neg c390])
  obtain ⟨hk, hA, hB⟩ := h
  have k394 : (((m 3 4) < (m 3 1)) ∧ ((¬ ((x_Tape_signAt (m 3 4) m) < 97) ∧ ((x_Tape_signAt (m 3 4) m) ≤ 122)))) → gh_T E (gh_yTape_lookAtQuote.cls, prog_10_method_9_code, 2, false, 9) (d + 1) 25 [(0, 2, 3)] [] m (fun r m1 => gh_F m1 ∧ Q r m1) := by
    intro c
    have h := hA c
    refine gh_aload_n gd_Tape_lookAtQuote_25 0 rfl (by decide) ?_
    refine gh_dup gd_Tape_lookAtQuote_26 (by decide) ?_
    refine gf_3_4 gd_Tape_lookAtQuote_27 gh_k168 hF rfl ?_
    refine gh_iconst gd_Tape_lookAtQuote_30 (gh_r0 rfl) ?_
    obtain ⟨q396, h⟩ := h
    refine gh_iadd gd_Tape_lookAtQuote_31 q396 ?_
    refine pf_3_4 gd_Tape_lookAtQuote_32 gh_k168 hF (fun hF => ?_)
    refine gh_goto (tgt := 0) gd_Tape_lookAtQuote_35 (by decide) ?_
    exact hK0 (gh_u m 3 4 ((m 3 4) + 1)) hF h
  have k395 : ¬ (((m 3 4) < (m 3 1)) ∧ ((¬ ((x_Tape_signAt (m 3 4) m) < 97) ∧ ((x_Tape_signAt (m 3 4) m) ≤ 122)))) → gh_T E (gh_yTape_lookAtQuote.cls, prog_10_method_9_code, 2, false, 9) (d + 1) 38 [(0, 2, 3)] [] m (fun r m1 => gh_F m1 ∧ Q r m1) := by
    intro c
    have h := hB c
    exact hJ38 m hF h
  refine gh_jge (tgt := 38) gd_Tape_lookAtQuote_8 (by decide) (fun c397 => ?_) (fun c397 => ?_)
  · have hz : True := trivial
    have hk := hk c397
    refine gh_aload_n gd_Tape_lookAtQuote_11 0 rfl (by decide) ?_
    refine gh_aload_n gd_Tape_lookAtQuote_12 0 rfl (by decide) ?_
    refine gf_3_4 gd_Tape_lookAtQuote_13 gh_k168 hF rfl ?_
    have q393 := hk
    refine cv_Tape_signAt (d := d) gd_Tape_lookAtQuote_16 gh_k713 hF (Nat.le_of_ble_eq_true rfl) (gh_C.pe (e_Tape_signAt d (m 3 4) hF q393) ?_)
    refine cv_Tape_isSmall (d := d) gd_Tape_lookAtQuote_19 gh_k725 (Nat.le_of_ble_eq_true rfl) (gh_C.pe (e_Tape_isSmall d (x_Tape_signAt (m 3 4) m)) ?_)
    refine gh_beq (tgt := 38) gd_Tape_lookAtQuote_22 (by decide) (fun c398 => ?_) (fun c398 => ?_)
    · have hz : True := trivial
      exact k394 ⟨c397, c398⟩
    · have hz : True := trivial
      exact k395 (fun z => c398 z.2)
  · have hz : True := trivial
    exact k395 (fun z => c397 z.1)
theorem s_Tape_lookAtQuote {E : gh_E} {m : gh_M} {Q : Int → gh_M → Prop} (d : Nat) (hF : gh_F m) (h : w_Tape_lookAtQuote m Q) : gh_C E gh_yTape_lookAtQuote prog_10_method_9_code 2 none 9 (d + 1) [(2, 3)] m (fun r m1 => gh_F m1 ∧ Q r m1) := by
  refine gh_enter2 (L := [(0, 2, 3)]) (by decide +kernel) gh_rt9 (Nat.le_of_ble_eq_true rfl) rfl rfl ?_
  unfold w_Tape_lookAtQuote at h
  exact gh_M0_sound (T := fun m => gh_T E (gh_yTape_lookAtQuote.cls, prog_10_method_9_code, 2, false, 9) (d + 1) 0 [(0, 2, 3)] [] m (fun r m1 => gh_F m1 ∧ Q r m1)) (fun m => gh_F m) (fun K0 m hK hF h => b_Tape_lookAtQuote_0 d hK m hF h) m hF h
def w_Tape_lookAtClass (m : gh_M) (Q : Int → gh_M → Prop) : Prop := gh_i ((m 3 3) + 1) ∧ k_Tape_signAt ((m 3 3) + 1) m ∧ ∀ v1 : Int, v1 = x_Tape_signAt ((m 3 3) + 1) m → gh_i ((m 3 3) + 3) ∧ k_Tape_signAt ((m 3 3) + 3) m ∧ ∀ v2 : Int, v2 = x_Tape_signAt ((m 3 3) + 3) m → ((((¬ (v1 < 97) ∧ (v1 ≤ 122))) → (gh_i ((m 3 3) + 2) ∧ k_Tape_signAt ((m 3 3) + 2) m ∧ (((x_Tape_signAt ((m 3 3) + 2) m) = 45) → ((((¬ (v2 < 97) ∧ (v2 ≤ 122))) → (((v1 ≤ v2) → (gh_i ((m 3 3) + 4) ∧ k_Tape_signAt ((m 3 3) + 4) m))))))))) ∧ ∀ v3 : Int, v3 = (if (((¬ (v1 < 97) ∧ (v1 ≤ 122))) ∧ (((x_Tape_signAt ((m 3 3) + 2) m) = 45) ∧ (((¬ (v2 < 97) ∧ (v2 ≤ 122))) ∧ ((v1 ≤ v2) ∧ ((x_Tape_signAt ((m 3 3) + 4) m) = 93))))) then (1:Int) else 0) → gh_i ((m 3 3) + 5) ∧ Q 0 (gh_u (gh_u m 3 2 (if v3 = 0 then 5 else 3)) 3 4 ((m 3 3) + 5))
theorem s_Tape_lookAtClass {E : gh_E} {m : gh_M} {Q : Int → gh_M → Prop} (d : Nat) (hF : gh_F m) (h : w_Tape_lookAtClass m Q) : gh_C E gh_yTape_lookAtClass prog_10_method_10_code 4 none 9 (d + 1) [(2, 3)] m (fun r m1 => gh_F m1 ∧ Q r m1) := by
  refine gh_enter2 (L := [(0, 2, 3)]) (by decide +kernel) gh_rt9 (Nat.le_of_ble_eq_true rfl) rfl rfl ?_
  unfold w_Tape_lookAtClass at h
  refine gh_aload_n gd_Tape_lookAtClass_0 0 rfl (by decide) ?_
  refine gh_aload_n gd_Tape_lookAtClass_1 0 rfl (by decide) ?_
  refine gf_3_3 gd_Tape_lookAtClass_2 gh_k167 hF rfl ?_
  refine gh_iconst gd_Tape_lookAtClass_5 (gh_r0 rfl) ?_
  obtain ⟨q399, h⟩ := h
  refine gh_iadd gd_Tape_lookAtClass_6 q399 ?_
  obtain ⟨q400, h⟩ := h
  refine cv_Tape_signAt (d := d) gd_Tape_lookAtClass_7 gh_k713 hF (Nat.le_of_ble_eq_true rfl) (gh_C.pe (e_Tape_signAt d ((m 3 3) + 1) hF q400) ?_)
  refine gh_name (fun v1 hn => ?_)
  have h := h v1 hn
  refine gh_istore_n (L2 := [(1, 0, v1), (0, 2, 3)]) gd_Tape_lookAtClass_10 (by decide) rfl ?_
  refine gh_aload_n gd_Tape_lookAtClass_11 1 rfl (by decide) ?_
  refine gh_aload_n gd_Tape_lookAtClass_12 1 rfl (by decide) ?_
  refine gf_3_3 gd_Tape_lookAtClass_13 gh_k167 hF rfl ?_
  refine gh_iconst gd_Tape_lookAtClass_16 (gh_r0 rfl) ?_
  obtain ⟨q401, h⟩ := h
  refine gh_iadd gd_Tape_lookAtClass_17 q401 ?_
  obtain ⟨q402, h⟩ := h
  refine cv_Tape_signAt (d := d) gd_Tape_lookAtClass_18 gh_k713 hF (Nat.le_of_ble_eq_true rfl) (gh_C.pe (e_Tape_signAt d ((m 3 3) + 3) hF q402) ?_)
  refine gh_name (fun v2 hn => ?_)
  have h := h v2 hn
  refine gh_istore_n (L2 := [(2, 0, v2), (1, 0, v1), (0, 2, 3)]) gd_Tape_lookAtClass_21 (by decide) rfl ?_
  refine gh_iload_n gd_Tape_lookAtClass_22 1 rfl ?_
  refine cv_Tape_isSmall (d := d) gd_Tape_lookAtClass_23 gh_k725 (Nat.le_of_ble_eq_true rfl) (gh_C.pe (e_Tape_isSmall d v1) ?_)
  obtain ⟨hk, h⟩ := h
  have k407 : ∀ x408 : Int, x408 = (if (((¬ (v1 < 97) ∧ (v1 ≤ 122))) ∧ (((x_Tape_signAt ((m 3 3) + 2) m) = 45) ∧ (((¬ (v2 < 97) ∧ (v2 ≤ 122))) ∧ ((v1 ≤ v2) ∧ ((x_Tape_signAt ((m 3 3) + 4) m) = 93))))) then (1:Int) else 0) → gh_T E (gh_yTape_lookAtClass.cls, prog_10_method_10_code, 4, false, 9) (d + 1) 76 [(2, 0, v2), (1, 0, v1), (0, 2, 3)] [(0, x408)] m (fun r m1 => gh_F m1 ∧ Q r m1) := by
    rintro _ rfl
    refine gh_name (fun v3 hn => ?_)
    have h := h v3 hn
    refine gh_istore_n (L2 := [(3, 0, v3), (2, 0, v2), (1, 0, v1), (0, 2, 3)]) gd_Tape_lookAtClass_76 (by decide) rfl ?_
    refine gh_aload_n gd_Tape_lookAtClass_77 3 rfl (by decide) ?_
    refine gh_iload_n gd_Tape_lookAtClass_78 0 rfl ?_
    have k409 : ∀ x410 : Int, x410 = (if v3 = 0 then 5 else 3) → gh_T E (gh_yTape_lookAtClass.cls, prog_10_method_10_code, 4, false, 9) (d + 1) 87 [(3, 0, v3), (2, 0, v2), (1, 0, v1), (0, 2, 3)] [(0, x410), (2, 3)] m (fun r m1 => gh_F m1 ∧ Q r m1) := by
      rintro _ rfl
      refine pf_3_2 gd_Tape_lookAtClass_87 gh_k165 hF (fun hF => ?_)
      refine gh_aload_n gd_Tape_lookAtClass_90 3 rfl (by decide) ?_
      refine gh_aload_n gd_Tape_lookAtClass_91 3 rfl (by decide) ?_
      refine gf_3_3 gd_Tape_lookAtClass_92 gh_k167 hF (gh_u_i (by decide)) ?_
      refine gh_iconst gd_Tape_lookAtClass_95 (gh_r0 rfl) ?_
      obtain ⟨q411, h⟩ := h
      refine gh_iadd gd_Tape_lookAtClass_96 q411 ?_
      refine pf_3_4 gd_Tape_lookAtClass_97 gh_k168 hF (fun hF => ?_)
      exact gh_ret9 rfl gd_Tape_lookAtClass_100 ⟨hF, h⟩
    refine gh_zeq (tgt := 86) gd_Tape_lookAtClass_79 (by decide) (fun c412 => ?_) (fun c412 => ?_)
    · have hz : True := trivial
      refine gh_iconst gd_Tape_lookAtClass_86 (gh_r0 rfl) ?_
      exact k409 _ (by rw [if_pos c412])
    · have hz : True := trivial
      refine gh_iconst gd_Tape_lookAtClass_82 (gh_r0 rfl) ?_
      refine gh_goto (tgt := 87) gd_Tape_lookAtClass_83 (by decide) ?_
      exact k409 _ (by rw [if_neg c412])
  refine gh_beq (tgt := 75) gd_Tape_lookAtClass_26 (by decide) (fun c413 => ?_) (fun c413 => ?_)
  · have hz : True := trivial
    have hk := hk c413
    refine gh_aload_n gd_Tape_lookAtClass_29 2 rfl (by decide) ?_
    refine gh_aload_n gd_Tape_lookAtClass_30 2 rfl (by decide) ?_
    refine gf_3_3 gd_Tape_lookAtClass_31 gh_k167 hF rfl ?_
    refine gh_iconst gd_Tape_lookAtClass_34 (gh_r0 rfl) ?_
    obtain ⟨q403, hk⟩ := hk
    refine gh_iadd gd_Tape_lookAtClass_35 q403 ?_
    obtain ⟨q404, hk⟩ := hk
    refine cv_Tape_signAt (d := d) gd_Tape_lookAtClass_36 gh_k713 hF (Nat.le_of_ble_eq_true rfl) (gh_C.pe (e_Tape_signAt d ((m 3 3) + 2) hF q404) ?_)
    refine gh_bipush gd_Tape_lookAtClass_39 (by decide) (gh_r0 rfl) ?_
    refine gh_jne (tgt := 75) gd_Tape_lookAtClass_41 (by decide) (fun c414 => ?_) (fun c414 => ?_)
    · have hz : True := trivial
      have hk := hk c414
      refine gh_iload_n gd_Tape_lookAtClass_44 0 rfl ?_
      refine cv_Tape_isSmall (d := d) gd_Tape_lookAtClass_45 gh_k725 (Nat.le_of_ble_eq_true rfl) (gh_C.pe (e_Tape_isSmall d v2) ?_)
      refine gh_beq (tgt := 75) gd_Tape_lookAtClass_48 (by decide) (fun c415 => ?_) (fun c415 => ?_)
      · have hz : True := trivial
        have hk := hk c415
        refine gh_iload_n gd_Tape_lookAtClass_51 1 rfl ?_
        refine gh_iload_n gd_Tape_lookAtClass_52 0 rfl ?_
        refine gh_jgt (tgt := 75) gd_Tape_lookAtClass_53 (by decide) (fun c416 => ?_) (fun c416 => ?_)
        · have hz : True := trivial
          have hk := hk c416
          refine gh_aload_n gd_Tape_lookAtClass_56 2 rfl (by decide) ?_
          refine gh_aload_n gd_Tape_lookAtClass_57 2 rfl (by decide) ?_
          refine gf_3_3 gd_Tape_lookAtClass_58 gh_k167 hF rfl ?_
          refine gh_iconst gd_Tape_lookAtClass_61 (gh_r0 rfl) ?_
          obtain ⟨q405, hk⟩ := hk
          refine gh_iadd gd_Tape_lookAtClass_62 q405 ?_
          have q406 := hk
          refine cv_Tape_signAt (d := d) gd_Tape_lookAtClass_63 gh_k713 hF (Nat.le_of_ble_eq_true rfl) (gh_C.pe (e_Tape_signAt d ((m 3 3) + 4) hF q406) ?_)
          refine gh_bipush gd_Tape_lookAtClass_66 (by decide) (gh_r0 rfl) ?_
          refine gh_jne (tgt := 75) gd_Tape_lookAtClass_68 (by decide) (fun c417 => ?_) (fun c417 => ?_)
          · have hz : True := trivial
            refine gh_iconst gd_Tape_lookAtClass_71 (gh_r0 rfl) ?_
            refine gh_goto (tgt := 76) gd_Tape_lookAtClass_72 (by decide) ?_
            exact k407 _ (if_pos (c := (((¬ (v1 < 97) ∧ (v1 ≤ 122))) ∧ (((x_Tape_signAt ((m 3 3) + 2) m) = 45) ∧ (((¬ (v2 < 97) ∧ (v2 ≤ 122))) ∧ ((v1 ≤ v2) ∧ ((x_Tape_signAt ((m 3 3) + 4) m) = 93)))))) ⟨c413, ⟨c414, ⟨c415, ⟨c416, c417⟩⟩⟩⟩).symm
          · have hz : True := trivial
            refine gh_iconst gd_Tape_lookAtClass_75 (gh_r0 rfl) ?_
            exact k407 _ (if_neg (c := (((¬ (v1 < 97) ∧ (v1 ≤ 122))) ∧ (((x_Tape_signAt ((m 3 3) + 2) m) = 45) ∧ (((¬ (v2 < 97) ∧ (v2 ≤ 122))) ∧ ((v1 ≤ v2) ∧ ((x_Tape_signAt ((m 3 3) + 4) m) = 93)))))) (fun z => (fun z => (fun z => (fun z => c417 z.2) z.2) z.2) z.2)).symm
        · have hz : True := trivial
          refine gh_iconst gd_Tape_lookAtClass_75 (gh_r0 rfl) ?_
          exact k407 _ (if_neg (c := (((¬ (v1 < 97) ∧ (v1 ≤ 122))) ∧ (((x_Tape_signAt ((m 3 3) + 2) m) = 45) ∧ (((¬ (v2 < 97) ∧ (v2 ≤ 122))) ∧ ((v1 ≤ v2) ∧ ((x_Tape_signAt ((m 3 3) + 4) m) = 93)))))) (fun z => (fun z => (fun z => (fun z => c416 z.1) z.2) z.2) z.2)).symm
      · have hz : True := trivial
        refine gh_iconst gd_Tape_lookAtClass_75 (gh_r0 rfl) ?_
        exact k407 _ (if_neg (c := (((¬ (v1 < 97) ∧ (v1 ≤ 122))) ∧ (((x_Tape_signAt ((m 3 3) + 2) m) = 45) ∧ (((¬ (v2 < 97) ∧ (v2 ≤ 122))) ∧ ((v1 ≤ v2) ∧ ((x_Tape_signAt ((m 3 3) + 4) m) = 93)))))) (fun z => (fun z => (fun z => c415 z.1) z.2) z.2)).symm
    · have hz : True := trivial
      refine gh_iconst gd_Tape_lookAtClass_75 (gh_r0 rfl) ?_
      exact k407 _ (if_neg (c := (((¬ (v1 < 97) ∧ (v1 ≤ 122))) ∧ (((x_Tape_signAt ((m 3 3) + 2) m) = 45) ∧ (((¬ (v2 < 97) ∧ (v2 ≤ 122))) ∧ ((v1 ≤ v2) ∧ ((x_Tape_signAt ((m 3 3) + 4) m) = 93)))))) (fun z => (fun z => c414 z.1) z.2)).symm
  · have hz : True := trivial
    refine gh_iconst gd_Tape_lookAtClass_75 (gh_r0 rfl) ?_
    exact k407 _ (if_neg (c := (((¬ (v1 < 97) ∧ (v1 ≤ 122))) ∧ (((x_Tape_signAt ((m 3 3) + 2) m) = 45) ∧ (((¬ (v2 < 97) ∧ (v2 ≤ 122))) ∧ ((v1 ≤ v2) ∧ ((x_Tape_signAt ((m 3 3) + 4) m) = 93)))))) (fun z => c413 z.1)).symm
def f_Tape_advance_8 (Q : Int → gh_M → Prop) (K8 : gh_M → Prop) (m : gh_M) : Prop := ∃ J45 : gh_M → Prop, (∀ (m : gh_M), J45 m → k_Tape_signAt (m 3 3) m ∧ ∀ v1 : Int, v1 = x_Tape_signAt (m 3 3) m → gh_i ((m 3 3) + 1) ∧ ((v1 = (-1) → Q 0 (gh_u (gh_u (gh_u m 3 4 ((m 3 3) + 1)) 3 2 4) 3 4 (m 3 3))) ∧ (¬ (v1 = (-1)) → ∃ J104 : Prop, (J104 → ((v1 = 39 → w_Tape_lookAtQuote (gh_u m 3 4 ((m 3 3) + 1)) (fun _ m423 => Q 0 m423)) ∧ (¬ (v1 = 39) → ((v1 = 91 → w_Tape_lookAtClass (gh_u m 3 4 ((m 3 3) + 1)) (fun _ m426 => Q 0 m426)) ∧ (¬ (v1 = 91) → Q 0 (gh_u (gh_u m 3 4 ((m 3 3) + 1)) 3 2 (if p_Tape_isMark v1 then v1 else 5))))))) ∧ (((¬ (v1 < 65) ∧ (v1 ≤ 90)) → w_Tape_lookAtName (gh_u m 3 4 ((m 3 3) + 1)) (fun _ m433 => Q 0 m433)) ∧ (¬ (¬ (v1 < 65) ∧ (v1 ≤ 90)) → J104))))) ∧ ((((m 3 3) < (m 3 1)) → (k_Tape_signAt (m 3 3) m))) ∧ (((((m 3 3) < (m 3 1)) ∧ ((x_Tape_signAt (m 3 3) m) = 32)) → gh_i ((m 3 3) + 1) ∧ K8 (gh_u m 3 3 ((m 3 3) + 1))) ∧ (¬ (((m 3 3) < (m 3 1)) ∧ ((x_Tape_signAt (m 3 3) m) = 32)) → J45 m))
def w_Tape_advance (m : gh_M) (Q : Int → gh_M → Prop) : Prop := gh_M0 (fun K8 m => f_Tape_advance_8 Q K8 m) (gh_u m 3 3 (m 3 4))
theorem b_Tape_advance_8 {E : gh_E} {Q : Int → gh_M → Prop} {K8 : gh_M → Prop} (d : Nat) (hK : ∀ (m : gh_M), gh_F m → K8 m → gh_T E (gh_yTape_advance.cls, prog_10_method_7_code, 2, false, 9) (d + 2) 8 [(0, 2, 3)] [] m (fun r m1 => gh_F m1 ∧ Q r m1)) (m : gh_M) (hF : gh_F m) (h : f_Tape_advance_8 Q K8 m) : gh_T E (gh_yTape_advance.cls, prog_10_method_7_code, 2, false, 9) (d + 2) 8 [(0, 2, 3)] [] m (fun r m1 => gh_F m1 ∧ Q r m1) := by
  have hK8 := hK
  unfold f_Tape_advance_8 at h
  refine gh_aload_n gd_Tape_advance_8 0 rfl (by decide) ?_
  refine gf_3_3 gd_Tape_advance_9 gh_k167 hF rfl ?_
  refine gh_aload_n gd_Tape_advance_12 0 rfl (by decide) ?_
  refine gf_3_1 gd_Tape_advance_13 gh_k163 hF rfl ?_
  obtain ⟨J45, hJ45, h⟩ := h
  have hJ45 : ∀ (m : gh_M), gh_F m → J45 m → gh_T E (gh_yTape_advance.cls, prog_10_method_7_code, 2, false, 9) (d + 2) 45 [(0, 2, 3)] [] m (fun r m1 => gh_F m1 ∧ Q r m1) := by
    intro m hF hj
    have h := hJ45 m hj
    refine gh_aload_n gd_Tape_advance_45 0 rfl (by decide) ?_
    refine gh_aload_n gd_Tape_advance_46 0 rfl (by decide) ?_
    refine gf_3_3 gd_Tape_advance_47 gh_k167 hF rfl ?_
    obtain ⟨q418, h⟩ := h
    refine cv_Tape_signAt (d := d + 1) gd_Tape_advance_50 gh_k713 hF (Nat.le_of_ble_eq_true rfl) (gh_C.pe (e_Tape_signAt (d + 1) (m 3 3) hF q418) ?_)
    refine gh_name (fun v1 hn => ?_)
    have h := h v1 hn
    refine gh_istore_n (L2 := [(1, 0, v1), (0, 2, 3)]) gd_Tape_advance_53 (by decide) rfl ?_
    refine gh_aload_n gd_Tape_advance_54 1 rfl (by decide) ?_
    refine gh_aload_n gd_Tape_advance_55 1 rfl (by decide) ?_
    refine gf_3_3 gd_Tape_advance_56 gh_k167 hF rfl ?_
    refine gh_iconst gd_Tape_advance_59 (gh_r0 rfl) ?_
    obtain ⟨q419, h⟩ := h
    refine gh_iadd gd_Tape_advance_60 q419 ?_
    refine pf_3_4 gd_Tape_advance_61 gh_k168 hF (fun hF => ?_)
    refine gh_iload_n gd_Tape_advance_64 0 rfl ?_
    refine gh_iconst gd_Tape_advance_65 (gh_r0 rfl) ?_
    obtain ⟨hA, hB⟩ := h
    refine gh_jne (tgt := 85) gd_Tape_advance_66 (by decide) (fun c420 => ?_) (fun c420 => ?_)
    · have h := hA c420
      refine gh_aload_n gd_Tape_advance_69 1 rfl (by decide) ?_
      refine gh_iconst gd_Tape_advance_70 (gh_r0 rfl) ?_
      refine pf_3_2 gd_Tape_advance_71 gh_k165 hF (fun hF => ?_)
      refine gh_aload_n gd_Tape_advance_74 1 rfl (by decide) ?_
      refine gh_aload_n gd_Tape_advance_75 1 rfl (by decide) ?_
      refine gf_3_3 gd_Tape_advance_76 gh_k167 hF ((gh_u_i (by decide)).trans (gh_u_i (by decide))) ?_
      refine pf_3_4 gd_Tape_advance_79 gh_k168 hF (fun hF => ?_)
      refine gh_goto (tgt := 146) gd_Tape_advance_82 (by decide) ?_
      exact gh_ret9 rfl gd_Tape_advance_146 ⟨hF, h⟩
    · have h := hB c420
      refine gh_iload_n gd_Tape_advance_85 0 rfl ?_
      refine gh_bipush gd_Tape_advance_86 (by decide) (gh_r0 rfl) ?_
      obtain ⟨J104, hJ104, h⟩ := h
      have hJ104 : gh_F (gh_u m 3 4 ((m 3 3) + 1)) → J104 → gh_T E (gh_yTape_advance.cls, prog_10_method_7_code, 2, false, 9) (d + 2) 104 [(0, 2, 3), (1, 0, v1)] [] (gh_u m 3 4 ((m 3 3) + 1)) (fun r m1 => gh_F m1 ∧ Q r m1) := by
        intro hF hj
        have h := hJ104 hj
        refine gh_iload_n gd_Tape_advance_104 1 rfl ?_
        refine gh_bipush gd_Tape_advance_105 (by decide) (gh_r0 rfl) ?_
        obtain ⟨hA, hB⟩ := h
        refine gh_jne (tgt := 117) gd_Tape_advance_107 (by decide) (fun c421 => ?_) (fun c421 => ?_)
        · have h := hA c421
          refine gh_aload_n gd_Tape_advance_110 0 rfl (by decide) ?_
          refine cv_Tape_lookAtQuote (d := d + 1) gd_Tape_advance_111 gh_k721 hF (Nat.le_of_ble_eq_true rfl) (gh_C.mono (s_Tape_lookAtQuote d hF h) (fun r422 m423 hq => ?_))
          obtain ⟨hF, h⟩ := hq
          refine gh_goto (tgt := 146) gd_Tape_advance_114 (by decide) ?_
          exact gh_ret9 rfl gd_Tape_advance_146 ⟨hF, h⟩
        · have h := hB c421
          refine gh_iload_n gd_Tape_advance_117 1 rfl ?_
          refine gh_bipush gd_Tape_advance_118 (by decide) (gh_r0 rfl) ?_
          obtain ⟨hA, hB⟩ := h
          refine gh_jne (tgt := 130) gd_Tape_advance_120 (by decide) (fun c424 => ?_) (fun c424 => ?_)
          · have h := hA c424
            refine gh_aload_n gd_Tape_advance_123 0 rfl (by decide) ?_
            refine cv_Tape_lookAtClass (d := d + 1) gd_Tape_advance_124 gh_k728 hF (Nat.le_of_ble_eq_true rfl) (gh_C.mono (s_Tape_lookAtClass d hF h) (fun r425 m426 hq => ?_))
            obtain ⟨hF, h⟩ := hq
            refine gh_goto (tgt := 146) gd_Tape_advance_127 (by decide) ?_
            exact gh_ret9 rfl gd_Tape_advance_146 ⟨hF, h⟩
          · have h := hB c424
            refine gh_aload_n gd_Tape_advance_130 0 rfl (by decide) ?_
            refine gh_iload_n gd_Tape_advance_131 1 rfl ?_
            refine cv_Tape_isMark (d := d + 1) gd_Tape_advance_132 gh_k732 (Nat.le_of_ble_eq_true rfl) (gh_C.pe (e_Tape_isMark (d + 1) v1) ?_)
            have k427 : ∀ x428 : Int, x428 = (if p_Tape_isMark v1 then v1 else 5) → gh_T E (gh_yTape_advance.cls, prog_10_method_7_code, 2, false, 9) (d + 2) 143 [(0, 2, 3), (1, 0, v1)] [(0, x428), (2, 3)] (gh_u m 3 4 ((m 3 3) + 1)) (fun r m1 => gh_F m1 ∧ Q r m1) := by
              rintro _ rfl
              refine pf_3_2 gd_Tape_advance_143 gh_k165 hF (fun hF => ?_)
              exact gh_ret9 rfl gd_Tape_advance_146 ⟨hF, h⟩
            refine gh_beq (tgt := 142) gd_Tape_advance_135 (by decide) (fun c429 => ?_) (fun c429 => ?_)
            · have hz : True := trivial
              refine gh_iload_n gd_Tape_advance_138 1 rfl ?_
              refine gh_goto (tgt := 143) gd_Tape_advance_139 (by decide) ?_
              exact k427 _ (by rw [if_pos c429])
            · have hz : True := trivial
              refine gh_iconst gd_Tape_advance_142 (gh_r0 rfl) ?_
              exact k427 _ (by rw [if_neg c429])
      obtain ⟨hA, hB⟩ := h
      have k430 : (¬ (v1 < 65) ∧ (v1 ≤ 90)) → gh_T E (gh_yTape_advance.cls, prog_10_method_7_code, 2, false, 9) (d + 2) 97 [(1, 0, v1), (0, 2, 3)] [] (gh_u m 3 4 ((m 3 3) + 1)) (fun r m1 => gh_F m1 ∧ Q r m1) := by
        intro c
        have h := hA c
        refine gh_aload_n gd_Tape_advance_97 1 rfl (by decide) ?_
        refine cv_Tape_lookAtName (d := d + 1) gd_Tape_advance_98 gh_k714 hF (Nat.le_of_ble_eq_true rfl) (gh_C.mono (s_Tape_lookAtName d hF h) (fun r432 m433 hq => ?_))
        obtain ⟨hF, h⟩ := hq
        refine gh_goto (tgt := 146) gd_Tape_advance_101 (by decide) ?_
        exact gh_ret9 rfl gd_Tape_advance_146 ⟨hF, h⟩
      have k431 : ¬ (¬ (v1 < 65) ∧ (v1 ≤ 90)) → gh_T E (gh_yTape_advance.cls, prog_10_method_7_code, 2, false, 9) (d + 2) 104 [(1, 0, v1), (0, 2, 3)] [] (gh_u m 3 4 ((m 3 3) + 1)) (fun r m1 => gh_F m1 ∧ Q r m1) := by
        intro c
        have h := hB c
        refine gh_pick (L2 := [(0, 2, 3), (1, 0, v1)]) [1, 0] rfl ?_
        exact hJ104 hF h
      refine gh_jlt (tgt := 104) gd_Tape_advance_88 (by decide) (fun c434 => ?_) (fun c434 => ?_)
      · have hz : True := trivial
        exact k431 (fun z => z.1 c434)
      · have hz : True := trivial
        refine gh_iload_n gd_Tape_advance_91 0 rfl ?_
        refine gh_bipush gd_Tape_advance_92 (by decide) (gh_r0 rfl) ?_
        refine gh_jgt (tgt := 104) gd_Tape_advance_94 (by decide) (fun c435 => ?_) (fun c435 => ?_)
        · have hz : True := trivial
          exact k430 ⟨c434, c435⟩
        · have hz : True := trivial
          exact k431 (fun z => c435 z.2)
  obtain ⟨hk, hA, hB⟩ := h
  have k437 : (((m 3 3) < (m 3 1)) ∧ ((x_Tape_signAt (m 3 3) m) = 32)) → gh_T E (gh_yTape_advance.cls, prog_10_method_7_code, 2, false, 9) (d + 2) 32 [(0, 2, 3)] [] m (fun r m1 => gh_F m1 ∧ Q r m1) := by
    intro c
    have h := hA c
    refine gh_aload_n gd_Tape_advance_32 0 rfl (by decide) ?_
    refine gh_dup gd_Tape_advance_33 (by decide) ?_
    refine gf_3_3 gd_Tape_advance_34 gh_k167 hF rfl ?_
    refine gh_iconst gd_Tape_advance_37 (gh_r0 rfl) ?_
    obtain ⟨q439, h⟩ := h
    refine gh_iadd gd_Tape_advance_38 q439 ?_
    refine pf_3_3 gd_Tape_advance_39 gh_k167 hF (fun hF => ?_)
    refine gh_goto (tgt := 8) gd_Tape_advance_42 (by decide) ?_
    exact hK8 (gh_u m 3 3 ((m 3 3) + 1)) hF h
  have k438 : ¬ (((m 3 3) < (m 3 1)) ∧ ((x_Tape_signAt (m 3 3) m) = 32)) → gh_T E (gh_yTape_advance.cls, prog_10_method_7_code, 2, false, 9) (d + 2) 45 [(0, 2, 3)] [] m (fun r m1 => gh_F m1 ∧ Q r m1) := by
    intro c
    have h := hB c
    exact hJ45 m hF h
  refine gh_jge (tgt := 45) gd_Tape_advance_16 (by decide) (fun c440 => ?_) (fun c440 => ?_)
  · have hz : True := trivial
    have hk := hk c440
    refine gh_aload_n gd_Tape_advance_19 0 rfl (by decide) ?_
    refine gh_aload_n gd_Tape_advance_20 0 rfl (by decide) ?_
    refine gf_3_3 gd_Tape_advance_21 gh_k167 hF rfl ?_
    have q436 := hk
    refine cv_Tape_signAt (d := d + 1) gd_Tape_advance_24 gh_k713 hF (Nat.le_of_ble_eq_true rfl) (gh_C.pe (e_Tape_signAt (d + 1) (m 3 3) hF q436) ?_)
    refine gh_bipush gd_Tape_advance_27 (by decide) (gh_r0 rfl) ?_
    refine gh_jne (tgt := 45) gd_Tape_advance_29 (by decide) (fun c441 => ?_) (fun c441 => ?_)
    · have hz : True := trivial
      exact k437 ⟨c440, c441⟩
    · have hz : True := trivial
      exact k438 (fun z => c441 z.2)
  · have hz : True := trivial
    exact k438 (fun z => c440 z.1)
theorem s_Tape_advance {E : gh_E} {m : gh_M} {Q : Int → gh_M → Prop} (d : Nat) (hF : gh_F m) (h : w_Tape_advance m Q) : gh_C E gh_yTape_advance prog_10_method_7_code 2 none 9 (d + 2) [(2, 3)] m (fun r m1 => gh_F m1 ∧ Q r m1) := by
  refine gh_enter2 (L := [(0, 2, 3)]) (by decide +kernel) gh_rt9 (Nat.le_of_ble_eq_true rfl) rfl rfl ?_
  unfold w_Tape_advance at h
  refine gh_aload_n gd_Tape_advance_0 0 rfl (by decide) ?_
  refine gh_aload_n gd_Tape_advance_1 0 rfl (by decide) ?_
  refine gf_3_4 gd_Tape_advance_2 gh_k168 hF rfl ?_
  refine pf_3_3 gd_Tape_advance_5 gh_k167 hF (fun hF => ?_)
  exact gh_M0_sound (T := fun m => gh_T E (gh_yTape_advance.cls, prog_10_method_7_code, 2, false, 9) (d + 2) 8 [(0, 2, 3)] [] m (fun r m1 => gh_F m1 ∧ Q r m1)) (fun m => gh_F m) (fun K8 m hK hF h => b_Tape_advance_8 d hK m hF h) (gh_u m 3 3 (m 3 4)) hF h
def w_Reader_canStand (m : gh_M) (Q : Int → Prop) : Prop := (((m 5 4) = 0 → Q (if (((m 3 2) = 1) ∨ (((m 3 2) = 4) ∧ (¬ ((m 6 1) ≤ 0)))) then (1:Int) else 0)) ∧ (¬ ((m 5 4) = 0) → (((m 5 4) = 1 → Q (if ((m 3 2) = 58) then (1:Int) else 0)) ∧ (¬ ((m 5 4) = 1) → (((m 3 2) = 1 ∨ (m 3 2) = 2 ∨ (m 3 2) = 3 ∨ (m 3 2) = 40 ∨ (m 3 2) = 124 → Q 1) ∧ (((m 3 2) = 41 → Q (if (¬ ((m 5 5) ≤ 0)) then (1:Int) else 0)) ∧ (((m 3 2) = 42 ∨ (m 3 2) = 43 ∨ (m 3 2) = 63 → Q (if (¬ ((m 5 6) ≤ 0)) then (1:Int) else 0)) ∧ (((m 3 2) = 59 → Q (if ((m 5 5) = 0) then (1:Int) else 0)) ∧ (¬ ((m 3 2) = 1 ∨ (m 3 2) = 2 ∨ (m 3 2) = 3 ∨ (m 3 2) = 40 ∨ (m 3 2) = 124) → ¬ ((m 3 2) = 41) → ¬ ((m 3 2) = 42 ∨ (m 3 2) = 43 ∨ (m 3 2) = 63) → ¬ ((m 3 2) = 59) → Q 0)))))))))
theorem s_Reader_canStand {E : gh_E} {m : gh_M} {Q : Int → Prop} (d : Nat) (hF : gh_F m) (h : w_Reader_canStand m Q) : gh_C E gh_yReader_canStand prog_9_method_5_code 1 (some .boolean) 8 (d + 0) [(2, 5)] m (fun r m1 => m1 = m ∧ Q r) := by
  refine gh_enter2 (L := [(0, 2, 5)]) (by decide +kernel) gh_rt8 (Nat.le_of_ble_eq_true rfl) rfl rfl ?_
  unfold w_Reader_canStand at h
  refine gh_aload_n gd_Reader_canStand_0 0 rfl (by decide) ?_
  refine gf_5_4 gd_Reader_canStand_1 gh_k224 hF rfl ?_
  obtain ⟨hA, hB⟩ := h
  refine gh_zne (tgt := 45) gd_Reader_canStand_4 (by decide) (fun c442 => ?_) (fun c442 => ?_)
  · have h := hA c442
    refine gh_aload_n gd_Reader_canStand_7 0 rfl (by decide) ?_
    refine gf_5_3 gd_Reader_canStand_8 gh_k223 hF ?_
    refine gf_3_2 gd_Reader_canStand_11 gh_k164 hF rfl ?_
    refine gh_iconst gd_Reader_canStand_14 (gh_r0 rfl) ?_
    have k443 : ∀ x444 : Int, x444 = (if (((m 3 2) = 1) ∨ (((m 3 2) = 4) ∧ (¬ ((m 6 1) ≤ 0)))) then (1:Int) else 0) → gh_T E (gh_yReader_canStand.cls, prog_9_method_5_code, 1, false, 8) (d + 0) 44 [(0, 2, 5)] [(0, x444)] m (fun r m1 => m1 = m ∧ Q r) := by
      rintro _ rfl
      exact gh_ret8 rfl gd_Reader_canStand_44 gh_ib01 ⟨rfl, h⟩
    refine gh_jeq (tgt := 39) gd_Reader_canStand_15 (by decide) (fun c445 => ?_) (fun c445 => ?_)
    · have hz : True := trivial
      refine gh_iconst gd_Reader_canStand_39 (gh_r0 rfl) ?_
      refine gh_goto (tgt := 44) gd_Reader_canStand_40 (by decide) ?_
      exact k443 _ (if_pos (c := (((m 3 2) = 1) ∨ (((m 3 2) = 4) ∧ (¬ ((m 6 1) ≤ 0))))) (Or.inl c445)).symm
    · have hz : True := trivial
      refine gh_aload_n gd_Reader_canStand_18 0 rfl (by decide) ?_
      refine gf_5_3 gd_Reader_canStand_19 gh_k223 hF ?_
      refine gf_3_2 gd_Reader_canStand_22 gh_k164 hF rfl ?_
      refine gh_iconst gd_Reader_canStand_25 (gh_r0 rfl) ?_
      refine gh_jne (tgt := 43) gd_Reader_canStand_26 (by decide) (fun c446 => ?_) (fun c446 => ?_)
      · have hz : True := trivial
        refine gh_aload_n gd_Reader_canStand_29 0 rfl (by decide) ?_
        refine gf_5_0 gd_Reader_canStand_30 gh_k217 hF ?_
        refine gf_6_1 gd_Reader_canStand_33 gh_k195 hF rfl ?_
        refine gh_zle (tgt := 43) gd_Reader_canStand_36 (by decide) (fun c447 => ?_) (fun c447 => ?_)
        · have hz : True := trivial
          refine gh_iconst gd_Reader_canStand_43 (gh_r0 rfl) ?_
          exact k443 _ (if_neg (c := (((m 3 2) = 1) ∨ (((m 3 2) = 4) ∧ (¬ ((m 6 1) ≤ 0))))) (fun z => z.elim c445 (fun z => (not_not_intro c447) z.2))).symm
        · have hz : True := trivial
          refine gh_iconst gd_Reader_canStand_39 (gh_r0 rfl) ?_
          refine gh_goto (tgt := 44) gd_Reader_canStand_40 (by decide) ?_
          exact k443 _ (if_pos (c := (((m 3 2) = 1) ∨ (((m 3 2) = 4) ∧ (¬ ((m 6 1) ≤ 0))))) (Or.inr ⟨c446, c447⟩)).symm
      · have hz : True := trivial
        refine gh_iconst gd_Reader_canStand_43 (gh_r0 rfl) ?_
        exact k443 _ (if_neg (c := (((m 3 2) = 1) ∨ (((m 3 2) = 4) ∧ (¬ ((m 6 1) ≤ 0))))) (fun z => z.elim c445 (fun z => c446 z.1))).symm
  · have h := hB c442
    refine gh_aload_n gd_Reader_canStand_45 0 rfl (by decide) ?_
    refine gf_5_4 gd_Reader_canStand_46 gh_k224 hF rfl ?_
    refine gh_iconst gd_Reader_canStand_49 (gh_r0 rfl) ?_
    obtain ⟨hA, hB⟩ := h
    refine gh_jne (tgt := 71) gd_Reader_canStand_50 (by decide) (fun c448 => ?_) (fun c448 => ?_)
    · have h := hA c448
      refine gh_aload_n gd_Reader_canStand_53 0 rfl (by decide) ?_
      refine gf_5_3 gd_Reader_canStand_54 gh_k223 hF ?_
      refine gf_3_2 gd_Reader_canStand_57 gh_k164 hF rfl ?_
      refine gh_bipush gd_Reader_canStand_60 (by decide) (gh_r0 rfl) ?_
      have k449 : ∀ x450 : Int, x450 = (if ((m 3 2) = 58) then (1:Int) else 0) → gh_T E (gh_yReader_canStand.cls, prog_9_method_5_code, 1, false, 8) (d + 0) 70 [(0, 2, 5)] [(0, x450)] m (fun r m1 => m1 = m ∧ Q r) := by
        rintro _ rfl
        exact gh_ret8 rfl gd_Reader_canStand_70 gh_ib01 ⟨rfl, h⟩
      refine gh_jne (tgt := 69) gd_Reader_canStand_62 (by decide) (fun c451 => ?_) (fun c451 => ?_)
      · have hz : True := trivial
        refine gh_iconst gd_Reader_canStand_65 (gh_r0 rfl) ?_
        refine gh_goto (tgt := 70) gd_Reader_canStand_66 (by decide) ?_
        exact k449 _ (if_pos (c := ((m 3 2) = 58)) c451).symm
      · have hz : True := trivial
        refine gh_iconst gd_Reader_canStand_69 (gh_r0 rfl) ?_
        exact k449 _ (if_neg (c := ((m 3 2) = 58)) c451).symm
    · have h := hB c448
      refine gh_aload_n gd_Reader_canStand_71 0 rfl (by decide) ?_
      refine gf_5_3 gd_Reader_canStand_72 gh_k223 hF ?_
      refine gf_3_2 gd_Reader_canStand_75 gh_k164 hF rfl ?_
      obtain ⟨hA, h⟩ := h
      by_cases c452 : (m 3 2) = 1 ∨ (m 3 2) = 2 ∨ (m 3 2) = 3 ∨ (m 3 2) = 40 ∨ (m 3 2) = 124
      · have h := hA c452
        have k453 : gh_T E (gh_yReader_canStand.cls, prog_9_method_5_code, 1, false, 8) (d + 0) 168 [(0, 2, 5)] [] m (fun r m1 => m1 = m ∧ Q r) := by
          refine gh_iconst gd_Reader_canStand_168 (gh_r0 rfl) ?_
          exact gh_ret8 rfl gd_Reader_canStand_169 (by decide) ⟨rfl, h⟩
        rcases c452 with e | e | e | e | e
        · exact gh_lookup (tgt := 168) gd_Reader_canStand_78 (by decide) (by rw [e]; decide) k453
        · exact gh_lookup (tgt := 168) gd_Reader_canStand_78 (by decide) (by rw [e]; decide) k453
        · exact gh_lookup (tgt := 168) gd_Reader_canStand_78 (by decide) (by rw [e]; decide) k453
        · exact gh_lookup (tgt := 168) gd_Reader_canStand_78 (by decide) (by rw [e]; decide) k453
        · exact gh_lookup (tgt := 168) gd_Reader_canStand_78 (by decide) (by rw [e]; decide) k453
      obtain ⟨hA, h⟩ := h
      by_cases c454 : (m 3 2) = 41
      · have h := hA c454
        refine gh_lookup (tgt := 183) gd_Reader_canStand_78 (by decide) (by rw [c454]; decide) ?_
        refine gh_aload_n gd_Reader_canStand_183 0 rfl (by decide) ?_
        refine gf_5_5 gd_Reader_canStand_184 gh_k225 hF rfl ?_
        have k455 : ∀ x456 : Int, x456 = (if (¬ ((m 5 5) ≤ 0)) then (1:Int) else 0) → gh_T E (gh_yReader_canStand.cls, prog_9_method_5_code, 1, false, 8) (d + 0) 195 [(0, 2, 5)] [(0, x456)] m (fun r m1 => m1 = m ∧ Q r) := by
          rintro _ rfl
          exact gh_ret8 rfl gd_Reader_canStand_195 gh_ib01 ⟨rfl, h⟩
        refine gh_zle (tgt := 194) gd_Reader_canStand_187 (by decide) (fun c457 => ?_) (fun c457 => ?_)
        · have hz : True := trivial
          refine gh_iconst gd_Reader_canStand_194 (gh_r0 rfl) ?_
          exact k455 _ (if_neg (c := (¬ ((m 5 5) ≤ 0))) (not_not_intro c457)).symm
        · have hz : True := trivial
          refine gh_iconst gd_Reader_canStand_190 (gh_r0 rfl) ?_
          refine gh_goto (tgt := 195) gd_Reader_canStand_191 (by decide) ?_
          exact k455 _ (if_pos (c := (¬ ((m 5 5) ≤ 0))) c457).symm
      obtain ⟨hA, h⟩ := h
      by_cases c458 : (m 3 2) = 42 ∨ (m 3 2) = 43 ∨ (m 3 2) = 63
      · have h := hA c458
        have k459 : gh_T E (gh_yReader_canStand.cls, prog_9_method_5_code, 1, false, 8) (d + 0) 196 [(0, 2, 5)] [] m (fun r m1 => m1 = m ∧ Q r) := by
          refine gh_aload_n gd_Reader_canStand_196 0 rfl (by decide) ?_
          refine gf_5_6 gd_Reader_canStand_197 gh_k226 hF rfl ?_
          have k460 : ∀ x461 : Int, x461 = (if (¬ ((m 5 6) ≤ 0)) then (1:Int) else 0) → gh_T E (gh_yReader_canStand.cls, prog_9_method_5_code, 1, false, 8) (d + 0) 208 [(0, 2, 5)] [(0, x461)] m (fun r m1 => m1 = m ∧ Q r) := by
            rintro _ rfl
            exact gh_ret8 rfl gd_Reader_canStand_208 gh_ib01 ⟨rfl, h⟩
          refine gh_zle (tgt := 207) gd_Reader_canStand_200 (by decide) (fun c462 => ?_) (fun c462 => ?_)
          · have hz : True := trivial
            refine gh_iconst gd_Reader_canStand_207 (gh_r0 rfl) ?_
            exact k460 _ (if_neg (c := (¬ ((m 5 6) ≤ 0))) (not_not_intro c462)).symm
          · have hz : True := trivial
            refine gh_iconst gd_Reader_canStand_203 (gh_r0 rfl) ?_
            refine gh_goto (tgt := 208) gd_Reader_canStand_204 (by decide) ?_
            exact k460 _ (if_pos (c := (¬ ((m 5 6) ≤ 0))) c462).symm
        rcases c458 with e | e | e
        · exact gh_lookup (tgt := 196) gd_Reader_canStand_78 (by decide) (by rw [e]; decide) k459
        · exact gh_lookup (tgt := 196) gd_Reader_canStand_78 (by decide) (by rw [e]; decide) k459
        · exact gh_lookup (tgt := 196) gd_Reader_canStand_78 (by decide) (by rw [e]; decide) k459
      obtain ⟨hA, h⟩ := h
      by_cases c463 : (m 3 2) = 59
      · have h := hA c463
        refine gh_lookup (tgt := 170) gd_Reader_canStand_78 (by decide) (by rw [c463]; decide) ?_
        refine gh_aload_n gd_Reader_canStand_170 0 rfl (by decide) ?_
        refine gf_5_5 gd_Reader_canStand_171 gh_k225 hF rfl ?_
        have k464 : ∀ x465 : Int, x465 = (if ((m 5 5) = 0) then (1:Int) else 0) → gh_T E (gh_yReader_canStand.cls, prog_9_method_5_code, 1, false, 8) (d + 0) 182 [(0, 2, 5)] [(0, x465)] m (fun r m1 => m1 = m ∧ Q r) := by
          rintro _ rfl
          exact gh_ret8 rfl gd_Reader_canStand_182 gh_ib01 ⟨rfl, h⟩
        refine gh_zne (tgt := 181) gd_Reader_canStand_174 (by decide) (fun c466 => ?_) (fun c466 => ?_)
        · have hz : True := trivial
          refine gh_iconst gd_Reader_canStand_177 (gh_r0 rfl) ?_
          refine gh_goto (tgt := 182) gd_Reader_canStand_178 (by decide) ?_
          exact k464 _ (if_pos (c := ((m 5 5) = 0)) c466).symm
        · have hz : True := trivial
          refine gh_iconst gd_Reader_canStand_181 (gh_r0 rfl) ?_
          exact k464 _ (if_neg (c := ((m 5 5) = 0)) c466).symm
      have n467 : ¬ ((m 3 2) = 1) := fun z => c452 (by simp [z])
      have n468 : ¬ ((m 3 2) = 2) := fun z => c452 (by simp [z])
      have n469 : ¬ ((m 3 2) = 3) := fun z => c452 (by simp [z])
      have n470 : ¬ ((m 3 2) = 40) := fun z => c452 (by simp [z])
      have n471 : ¬ ((m 3 2) = 124) := fun z => c452 (by simp [z])
      have n472 : ¬ ((m 3 2) = 41) := c454
      have n473 : ¬ ((m 3 2) = 42) := fun z => c458 (by simp [z])
      have n474 : ¬ ((m 3 2) = 43) := fun z => c458 (by simp [z])
      have n475 : ¬ ((m 3 2) = 63) := fun z => c458 (by simp [z])
      have n476 : ¬ ((m 3 2) = 59) := c463
      refine gh_lookup (tgt := 209) gd_Reader_canStand_78 (by decide) (by simp [Op.lookupswitch.offset]; rw [if_neg (Ne.symm n467), if_neg (Ne.symm n468), if_neg (Ne.symm n469), if_neg (Ne.symm n470), if_neg (Ne.symm n472), if_neg (Ne.symm n473), if_neg (Ne.symm n474), if_neg (Ne.symm n476), if_neg (Ne.symm n475), if_neg (Ne.symm n471)]; rfl) ?_
      have h := h c452 c454 c458 c463
      refine gh_iconst gd_Reader_canStand_209 (gh_r0 rfl) ?_
      exact gh_ret8 rfl gd_Reader_canStand_210 (by decide) ⟨rfl, h⟩
def f_Tape_key_9 (Q : Int → Prop) (m : gh_M) (K9 : Int → Int → Prop) (v1 : Int) (v2 : Int) : Prop := ((v2 < (m 3 3) → Q v1) ∧ (¬ (v2 < (m 3 3)) → gh_i (v1 * 128) ∧ k_Tape_signAt v2 m ∧ gh_i ((v1 * 128) + (x_Tape_signAt v2 m)) ∧ ∀ v1' : Int, v1' = (v1 * 128) + (x_Tape_signAt v2 m) → gh_i (v2 + (-1)) ∧ K9 v1' (v2 + (-1))))
def w_Tape_key (m : gh_M) (Q : Int → Prop) : Prop := gh_i ((m 3 4) - 1) ∧ ∀ v2 : Int, v2 = (m 3 4) - 1 → gh_L2 (fun K9 v1 v2 => f_Tape_key_9 Q m K9 v1 v2) 0 v2
theorem b_Tape_key_9 {E : gh_E} {Q : Int → Prop} {K9 : Int → Int → Prop} (d : Nat) {m : gh_M} (hK : ∀ (v1 : Int) (v2 : Int), gh_F m → K9 v1 v2 → gh_T E (gh_yTape_key.cls, prog_10_method_14_code, 3, false, 0) (d + 1) 9 [(0, 2, 3), (1, 0, v1), (2, 0, v2)] [] m (fun r m1 => m1 = m ∧ Q r)) (v1 : Int) (v2 : Int) (hF : gh_F m) (h : f_Tape_key_9 Q m K9 v1 v2) : gh_T E (gh_yTape_key.cls, prog_10_method_14_code, 3, false, 0) (d + 1) 9 [(0, 2, 3), (1, 0, v1), (2, 0, v2)] [] m (fun r m1 => m1 = m ∧ Q r) := by
  have hK9 := hK
  unfold f_Tape_key_9 at h
  refine gh_iload_n gd_Tape_key_9 2 rfl ?_
  refine gh_aload_n gd_Tape_key_10 0 rfl (by decide) ?_
  refine gf_3_3 gd_Tape_key_11 gh_k167 hF rfl ?_
  obtain ⟨hA, hB⟩ := h
  refine gh_jlt (tgt := 35) gd_Tape_key_14 (by decide) (fun c478 => ?_) (fun c478 => ?_)
  · have h := hA c478
    refine gh_iload_n gd_Tape_key_35 1 rfl ?_
    exact gh_ret0 rfl gd_Tape_key_36 ⟨rfl, h⟩
  · have h := hB c478
    refine gh_iload_n gd_Tape_key_17 1 rfl ?_
    refine gh_sipush gd_Tape_key_18 (by decide) (gh_r0 rfl) ?_
    obtain ⟨q479, h⟩ := h
    refine gh_imul gd_Tape_key_21 q479 ?_
    refine gh_aload_n gd_Tape_key_22 0 rfl (by decide) ?_
    refine gh_iload_n gd_Tape_key_23 2 rfl ?_
    obtain ⟨q480, h⟩ := h
    refine cv_Tape_signAt (d := d) gd_Tape_key_24 gh_k713 hF (Nat.le_of_ble_eq_true rfl) (gh_C.pe (e_Tape_signAt d v2 hF q480) ?_)
    obtain ⟨q481, h⟩ := h
    refine gh_iadd gd_Tape_key_27 q481 ?_
    refine gh_name (fun v1' hn => ?_)
    have h := h v1' hn
    refine gh_istore_n (L2 := [(1, 0, v1'), (0, 2, 3), (2, 0, v2)]) gd_Tape_key_28 (by decide) rfl ?_
    obtain ⟨q482, h⟩ := h
    refine gh_iinc (L2 := [(2, 0, v2 + (-1)), (1, 0, v1'), (0, 2, 3)]) gd_Tape_key_29 2 rfl q482 (by decide) rfl ?_
    refine gh_goto (tgt := 9) gd_Tape_key_32 (by decide) ?_
    refine gh_pick (L2 := [(0, 2, 3), (1, 0, v1'), (2, 0, v2 + (-1))]) [2, 1, 0] rfl ?_
    exact hK9 v1' (v2 + (-1)) hF h
theorem s_Tape_key {E : gh_E} {m : gh_M} {Q : Int → Prop} (d : Nat) (hF : gh_F m) (h : w_Tape_key m Q) : gh_C E gh_yTape_key prog_10_method_14_code 3 (some .int) 0 (d + 1) [(2, 3)] m (fun r m1 => m1 = m ∧ Q r) := by
  refine gh_enter2 (L := [(0, 2, 3)]) (by decide +kernel) gh_rt0 (Nat.le_of_ble_eq_true rfl) rfl rfl ?_
  unfold w_Tape_key at h
  refine gh_iconst gd_Tape_key_0 (gh_r0 rfl) ?_
  refine gh_istore_n (L2 := [(1, 0, 0), (0, 2, 3)]) gd_Tape_key_1 (by decide) rfl ?_
  refine gh_aload_n gd_Tape_key_2 1 rfl (by decide) ?_
  refine gf_3_4 gd_Tape_key_3 gh_k168 hF rfl ?_
  refine gh_iconst gd_Tape_key_6 (gh_r0 rfl) ?_
  obtain ⟨q477, h⟩ := h
  refine gh_isub gd_Tape_key_7 q477 ?_
  refine gh_name (fun v2 hn => ?_)
  have h := h v2 hn
  refine gh_istore_n (L2 := [(2, 0, v2), (1, 0, 0), (0, 2, 3)]) gd_Tape_key_8 (by decide) rfl ?_
  refine gh_pick (L2 := [(0, 2, 3), (1, 0, 0), (2, 0, v2)]) [2, 1, 0] rfl ?_
  exact gh_L2_sound (T := fun v1 v2 => gh_T E (gh_yTape_key.cls, prog_10_method_14_code, 3, false, 0) (d + 1) 9 [(0, 2, 3), (1, 0, v1), (2, 0, v2)] [] m (fun r m1 => m1 = m ∧ Q r)) (fun _ _ => gh_F m) (fun K9 v1 v2 hK hF h => b_Tape_key_9 d hK v1 v2 hF h) 0 v2 hF h
def f_Draft_find_2 (v1 : Int) (Q : Int → Prop) (m : gh_M) (K2 : Int → Prop) (v2 : Int) : Prop := ((((v2 < (m 6 1)) ∧ (v2 < 8)) → 0 ≤ v2 ∧ v2 < 8 ∧ (((m 7 v2) = v1 → Q v2) ∧ (¬ ((m 7 v2) = v1) → gh_i (v2 + 1) ∧ K2 (v2 + 1)))) ∧ (¬ ((v2 < (m 6 1)) ∧ (v2 < 8)) → Q (-1)))
def w_Draft_find (v1 : Int) (m : gh_M) (Q : Int → Prop) : Prop := gh_L1 (fun K2 v2 => f_Draft_find_2 v1 Q m K2 v2) 0
theorem b_Draft_find_2 {E : gh_E} {v1 : Int} {Q : Int → Prop} {K2 : Int → Prop} (d : Nat) {m : gh_M} (hK : ∀ (v2 : Int), gh_F m → K2 v2 → gh_T E (gh_yDraft_find.cls, prog_3_method_4_code, 3, false, 0) (d + 0) 2 [(0, 2, 6), (1, 0, v1), (2, 0, v2)] [] m (fun r m1 => m1 = m ∧ Q r)) (v2 : Int) (hF : gh_F m) (h : f_Draft_find_2 v1 Q m K2 v2) : gh_T E (gh_yDraft_find.cls, prog_3_method_4_code, 3, false, 0) (d + 0) 2 [(0, 2, 6), (1, 0, v1), (2, 0, v2)] [] m (fun r m1 => m1 = m ∧ Q r) := by
  have hK2 := hK
  unfold f_Draft_find_2 at h
  refine gh_iload_n gd_Draft_find_2 2 rfl ?_
  refine gh_aload_n gd_Draft_find_3 0 rfl (by decide) ?_
  refine gf_6_1 gd_Draft_find_4 gh_k194 hF rfl ?_
  obtain ⟨hA, hB⟩ := h
  have k483 : ((v2 < (m 6 1)) ∧ (v2 < 8)) → gh_T E (gh_yDraft_find.cls, prog_3_method_4_code, 3, false, 0) (d + 0) 16 [(0, 2, 6), (1, 0, v1), (2, 0, v2)] [] m (fun r m1 => m1 = m ∧ Q r) := by
    intro c
    have h := hA c
    refine gh_aload_n gd_Draft_find_16 0 rfl (by decide) ?_
    refine gf_6_0 gd_Draft_find_17 gh_k193 hF ?_
    refine gh_iload_n gd_Draft_find_20 2 rfl ?_
    obtain ⟨q485, h⟩ := h
    obtain ⟨q486, h⟩ := h
    refine la_7 gd_Draft_find_21 hF q485 q486 rfl ?_
    refine gh_iload_n gd_Draft_find_22 1 rfl ?_
    obtain ⟨hA, hB⟩ := h
    refine gh_jne (tgt := 28) gd_Draft_find_23 (by decide) (fun c487 => ?_) (fun c487 => ?_)
    · have h := hA c487
      refine gh_iload_n gd_Draft_find_26 2 rfl ?_
      exact gh_ret0 rfl gd_Draft_find_27 ⟨rfl, h⟩
    · have h := hB c487
      obtain ⟨q488, h⟩ := h
      refine gh_iinc (L2 := [(2, 0, v2 + 1), (0, 2, 6), (1, 0, v1)]) gd_Draft_find_28 2 rfl q488 (by decide) rfl ?_
      refine gh_goto (tgt := 2) gd_Draft_find_31 (by decide) ?_
      refine gh_pick (L2 := [(0, 2, 6), (1, 0, v1), (2, 0, v2 + 1)]) [1, 2, 0] rfl ?_
      exact hK2 (v2 + 1) hF h
  have k484 : ¬ ((v2 < (m 6 1)) ∧ (v2 < 8)) → gh_T E (gh_yDraft_find.cls, prog_3_method_4_code, 3, false, 0) (d + 0) 34 [(0, 2, 6), (1, 0, v1), (2, 0, v2)] [] m (fun r m1 => m1 = m ∧ Q r) := by
    intro c
    have h := hB c
    refine gh_iconst gd_Draft_find_34 (gh_r0 rfl) ?_
    exact gh_ret0 rfl gd_Draft_find_35 ⟨rfl, h⟩
  refine gh_jge (tgt := 34) gd_Draft_find_7 (by decide) (fun c489 => ?_) (fun c489 => ?_)
  · have hz : True := trivial
    refine gh_iload_n gd_Draft_find_10 2 rfl ?_
    refine gh_bipush gd_Draft_find_11 (by decide) (gh_r0 rfl) ?_
    refine gh_jge (tgt := 34) gd_Draft_find_13 (by decide) (fun c490 => ?_) (fun c490 => ?_)
    · have hz : True := trivial
      exact k483 ⟨c489, c490⟩
    · have hz : True := trivial
      exact k484 (fun z => c490 z.2)
  · have hz : True := trivial
    exact k484 (fun z => c489 z.1)
theorem s_Draft_find {E : gh_E} {m : gh_M} {Q : Int → Prop} (d : Nat) (v1 : Int) (hF : gh_F m) (h : w_Draft_find v1 m Q) : gh_C E gh_yDraft_find prog_3_method_4_code 3 (some .int) 0 (d + 0) [(2, 6), (0, v1)] m (fun r m1 => m1 = m ∧ Q r) := by
  refine gh_enter2 (L := [(0, 2, 6), (1, 0, v1)]) (by decide +kernel) gh_rt0 (Nat.le_of_ble_eq_true rfl) rfl rfl ?_
  unfold w_Draft_find at h
  refine gh_iconst gd_Draft_find_0 (gh_r0 rfl) ?_
  refine gh_istore_n (L2 := [(2, 0, 0), (0, 2, 6), (1, 0, v1)]) gd_Draft_find_1 (by decide) rfl ?_
  refine gh_pick (L2 := [(0, 2, 6), (1, 0, v1), (2, 0, 0)]) [1, 2, 0] rfl ?_
  exact gh_L1_sound (T := fun v2 => gh_T E (gh_yDraft_find.cls, prog_3_method_4_code, 3, false, 0) (d + 0) 2 [(0, 2, 6), (1, 0, v1), (2, 0, v2)] [] m (fun r m1 => m1 = m ∧ Q r)) (fun _ => gh_F m) (fun K2 v2 hK hF h => b_Draft_find_2 d hK v2 hF h) 0 hF h
def w_Reader_isTooMuch (m : gh_M) (Q : Int → Prop) : Prop := (((m 3 2) = 1 ∨ (m 3 2) = 2 ∨ (m 3 2) = 3 → (((m 5 4) = 0 → k_Draft_allNames m ∧ ∃ J137 : Prop, (J137 → Q 0) ∧ (((x_Draft_allNames m) < 8 → J137) ∧ (¬ ((x_Draft_allNames m) < 8) → w_Tape_key m (fun r496 => w_Draft_find r496 m (fun r498 => ((r498 = (-1) → Q 1) ∧ (¬ (r498 = (-1)) → J137))))))) ∧ (¬ ((m 5 4) = 0) → 0 ≤ m 5 5 ∧ (m 5 5) < 4 ∧ k_Tape_width m ∧ gh_i ((m 11 (m 5 5)) + (x_Tape_width m)) ∧ Q (if (¬ (((m 11 (m 5 5)) + (x_Tape_width m)) ≤ 4)) then (1:Int) else 0)))) ∧ (((m 3 2) = 40 → Q (if (¬ ((m 5 5) < 3)) then (1:Int) else 0)) ∧ (((m 3 2) = 41 → ((((m 6 3) < 20) → (k_Draft_allNames m ∧ (((x_Draft_allNames m) < 8) → ((¬ ((m 5 5) ≤ 0) → (gh_i ((m 5 5) - 1) ∧ 0 ≤ (m 5 5) - 1 ∧ ((m 5 5) - 1) < 4))))))) ∧ Q (if (¬ ((m 6 3) < 20) ∨ (¬ ((x_Draft_allNames m) < 8) ∨ (¬ ((m 5 5) ≤ 0) ∧ (¬ ((m 11 ((m 5 5) - 1)) < 4))))) then (1:Int) else 0)) ∧ (((m 3 2) = 42 ∨ (m 3 2) = 43 ∨ (m 3 2) = 63 → gh_i ((m 6 3) + 2) ∧ (((((m 6 3) + 2) ≤ 20) → (k_Draft_allNames m))) ∧ Q (if (¬ (((m 6 3) + 2) ≤ 20) ∨ (¬ ((x_Draft_allNames m) < 8))) then (1:Int) else 0)) ∧ (((m 3 2) = 59 ∨ (m 3 2) = 124 → Q (if (¬ ((m 6 3) < 20)) then (1:Int) else 0)) ∧ (¬ ((m 3 2) = 1 ∨ (m 3 2) = 2 ∨ (m 3 2) = 3) → ¬ ((m 3 2) = 40) → ¬ ((m 3 2) = 41) → ¬ ((m 3 2) = 42 ∨ (m 3 2) = 43 ∨ (m 3 2) = 63) → ¬ ((m 3 2) = 59 ∨ (m 3 2) = 124) → Q 0))))))
theorem s_Reader_isTooMuch {E : gh_E} {m : gh_M} {Q : Int → Prop} (d : Nat) (hF : gh_F m) (h : w_Reader_isTooMuch m Q) : gh_C E gh_yReader_isTooMuch prog_9_method_6_code 1 (some .boolean) 8 (d + 2) [(2, 5)] m (fun r m1 => m1 = m ∧ Q r) := by
  refine gh_enter2 (L := [(0, 2, 5)]) (by decide +kernel) gh_rt8 (Nat.le_of_ble_eq_true rfl) rfl rfl ?_
  unfold w_Reader_isTooMuch at h
  refine gh_aload_n gd_Reader_isTooMuch_0 0 rfl (by decide) ?_
  refine gf_5_3 gd_Reader_isTooMuch_1 gh_k223 hF ?_
  refine gf_3_2 gd_Reader_isTooMuch_4 gh_k164 hF rfl ?_
  obtain ⟨hA, h⟩ := h
  by_cases c491 : (m 3 2) = 1 ∨ (m 3 2) = 2 ∨ (m 3 2) = 3
  · have h := hA c491
    have k492 : gh_T E (gh_yReader_isTooMuch.cls, prog_9_method_6_code, 1, false, 8) (d + 2) 96 [(0, 2, 5)] [] m (fun r m1 => m1 = m ∧ Q r) := by
      refine gh_aload_n gd_Reader_isTooMuch_96 0 rfl (by decide) ?_
      refine gf_5_4 gd_Reader_isTooMuch_97 gh_k224 hF rfl ?_
      obtain ⟨hA, hB⟩ := h
      refine gh_zne (tgt := 139) gd_Reader_isTooMuch_100 (by decide) (fun c493 => ?_) (fun c493 => ?_)
      · have h := hA c493
        refine gh_aload_n gd_Reader_isTooMuch_103 0 rfl (by decide) ?_
        refine gf_5_0 gd_Reader_isTooMuch_104 gh_k217 hF ?_
        obtain ⟨q494, h⟩ := h
        refine cv_Draft_allNames (d := d + 1) gd_Reader_isTooMuch_107 gh_k747 hF (Nat.le_of_ble_eq_true rfl) (gh_C.pe (e_Draft_allNames (d + 1)  hF q494) ?_)
        refine gh_bipush gd_Reader_isTooMuch_110 (by decide) (gh_r0 rfl) ?_
        obtain ⟨J137, hJ137, h⟩ := h
        have hJ137 : gh_F m → J137 → gh_T E (gh_yReader_isTooMuch.cls, prog_9_method_6_code, 1, false, 8) (d + 2) 137 [] [] m (fun r m1 => m1 = m ∧ Q r) := by
          intro hF hj
          have h := hJ137 hj
          refine gh_iconst gd_Reader_isTooMuch_137 (gh_r0 rfl) ?_
          exact gh_ret8 rfl gd_Reader_isTooMuch_138 (by decide) ⟨rfl, h⟩
        obtain ⟨hA, hB⟩ := h
        refine gh_jlt (tgt := 137) gd_Reader_isTooMuch_112 (by decide) (fun c495 => ?_) (fun c495 => ?_)
        · have h := hA c495
          refine gh_pick (L2 := []) [] rfl ?_
          exact hJ137 hF h
        · have h := hB c495
          refine gh_aload_n gd_Reader_isTooMuch_115 0 rfl (by decide) ?_
          refine gf_5_0 gd_Reader_isTooMuch_116 gh_k217 hF ?_
          refine gh_aload_n gd_Reader_isTooMuch_119 0 rfl (by decide) ?_
          refine gf_5_3 gd_Reader_isTooMuch_120 gh_k223 hF ?_
          refine cv_Tape_key (d := d + 1) gd_Reader_isTooMuch_123 gh_k751 hF (Nat.le_of_ble_eq_true rfl) (gh_C.pw (s_Tape_key d hF h) (fun r496 h => ?_))
          refine cv_Draft_find (d := d + 1) gd_Reader_isTooMuch_126 gh_k755 hF (Nat.le_of_ble_eq_true rfl) (gh_C.pw (s_Draft_find (d + 1) r496 hF h) (fun r498 h => ?_))
          refine gh_iconst gd_Reader_isTooMuch_129 (gh_r0 rfl) ?_
          obtain ⟨hA, hB⟩ := h
          refine gh_jne (tgt := 137) gd_Reader_isTooMuch_130 (by decide) (fun c500 => ?_) (fun c500 => ?_)
          · have h := hA c500
            refine gh_iconst gd_Reader_isTooMuch_133 (gh_r0 rfl) ?_
            refine gh_goto (tgt := 138) gd_Reader_isTooMuch_134 (by decide) ?_
            exact gh_ret8 rfl gd_Reader_isTooMuch_138 (by decide) ⟨rfl, h⟩
          · have h := hB c500
            refine gh_pick (L2 := []) [] rfl ?_
            exact hJ137 hF h
      · have h := hB c493
        refine gh_aload_n gd_Reader_isTooMuch_139 0 rfl (by decide) ?_
        refine gf_5_7 gd_Reader_isTooMuch_140 gh_k227 hF ?_
        refine gh_aload_n gd_Reader_isTooMuch_143 0 rfl (by decide) ?_
        refine gf_5_5 gd_Reader_isTooMuch_144 gh_k225 hF rfl ?_
        obtain ⟨q501, h⟩ := h
        obtain ⟨q502, h⟩ := h
        refine la_11 gd_Reader_isTooMuch_147 hF q501 q502 rfl ?_
        refine gh_aload_n gd_Reader_isTooMuch_148 0 rfl (by decide) ?_
        refine gf_5_3 gd_Reader_isTooMuch_149 gh_k223 hF ?_
        obtain ⟨q503, h⟩ := h
        refine cv_Tape_width (d := d + 1) gd_Reader_isTooMuch_152 gh_k759 hF (Nat.le_of_ble_eq_true rfl) (gh_C.pe (e_Tape_width (d + 1)  hF q503) ?_)
        obtain ⟨q504, h⟩ := h
        refine gh_iadd gd_Reader_isTooMuch_155 q504 ?_
        refine gh_iconst gd_Reader_isTooMuch_156 (gh_r0 rfl) ?_
        have k505 : ∀ x506 : Int, x506 = (if (¬ (((m 11 (m 5 5)) + (x_Tape_width m)) ≤ 4)) then (1:Int) else 0) → gh_T E (gh_yReader_isTooMuch.cls, prog_9_method_6_code, 1, false, 8) (d + 2) 165 [(0, 2, 5)] [(0, x506)] m (fun r m1 => m1 = m ∧ Q r) := by
          rintro _ rfl
          exact gh_ret8 rfl gd_Reader_isTooMuch_165 gh_ib01 ⟨rfl, h⟩
        refine gh_jle (tgt := 164) gd_Reader_isTooMuch_157 (by decide) (fun c507 => ?_) (fun c507 => ?_)
        · have hz : True := trivial
          refine gh_iconst gd_Reader_isTooMuch_164 (gh_r0 rfl) ?_
          exact k505 _ (if_neg (c := (¬ (((m 11 (m 5 5)) + (x_Tape_width m)) ≤ 4))) (not_not_intro c507)).symm
        · have hz : True := trivial
          refine gh_iconst gd_Reader_isTooMuch_160 (gh_r0 rfl) ?_
          refine gh_goto (tgt := 165) gd_Reader_isTooMuch_161 (by decide) ?_
          exact k505 _ (if_pos (c := (¬ (((m 11 (m 5 5)) + (x_Tape_width m)) ≤ 4))) c507).symm
    rcases c491 with e | e | e
    · exact gh_lookup (tgt := 96) gd_Reader_isTooMuch_7 (by decide) (by rw [e]; decide) k492
    · exact gh_lookup (tgt := 96) gd_Reader_isTooMuch_7 (by decide) (by rw [e]; decide) k492
    · exact gh_lookup (tgt := 96) gd_Reader_isTooMuch_7 (by decide) (by rw [e]; decide) k492
  obtain ⟨hA, h⟩ := h
  by_cases c508 : (m 3 2) = 40
  · have h := hA c508
    refine gh_lookup (tgt := 166) gd_Reader_isTooMuch_7 (by decide) (by rw [c508]; decide) ?_
    refine gh_aload_n gd_Reader_isTooMuch_166 0 rfl (by decide) ?_
    refine gf_5_5 gd_Reader_isTooMuch_167 gh_k225 hF rfl ?_
    refine gh_iconst gd_Reader_isTooMuch_170 (gh_r0 rfl) ?_
    have k509 : ∀ x510 : Int, x510 = (if (¬ ((m 5 5) < 3)) then (1:Int) else 0) → gh_T E (gh_yReader_isTooMuch.cls, prog_9_method_6_code, 1, false, 8) (d + 2) 179 [(0, 2, 5)] [(0, x510)] m (fun r m1 => m1 = m ∧ Q r) := by
      rintro _ rfl
      exact gh_ret8 rfl gd_Reader_isTooMuch_179 gh_ib01 ⟨rfl, h⟩
    refine gh_jlt (tgt := 178) gd_Reader_isTooMuch_171 (by decide) (fun c511 => ?_) (fun c511 => ?_)
    · have hz : True := trivial
      refine gh_iconst gd_Reader_isTooMuch_178 (gh_r0 rfl) ?_
      exact k509 _ (if_neg (c := (¬ ((m 5 5) < 3))) (not_not_intro c511)).symm
    · have hz : True := trivial
      refine gh_iconst gd_Reader_isTooMuch_174 (gh_r0 rfl) ?_
      refine gh_goto (tgt := 179) gd_Reader_isTooMuch_175 (by decide) ?_
      exact k509 _ (if_pos (c := (¬ ((m 5 5) < 3))) c511).symm
  obtain ⟨hA, h⟩ := h
  by_cases c512 : (m 3 2) = 41
  · have h := hA c512
    refine gh_lookup (tgt := 198) gd_Reader_isTooMuch_7 (by decide) (by rw [c512]; decide) ?_
    refine gh_aload_n gd_Reader_isTooMuch_198 0 rfl (by decide) ?_
    refine gf_5_0 gd_Reader_isTooMuch_199 gh_k217 hF ?_
    refine gf_6_3 gd_Reader_isTooMuch_202 gh_k198 hF rfl ?_
    refine gh_bipush gd_Reader_isTooMuch_205 (by decide) (gh_r0 rfl) ?_
    obtain ⟨hk, h⟩ := h
    have k517 : ∀ x518 : Int, x518 = (if (¬ ((m 6 3) < 20) ∨ (¬ ((x_Draft_allNames m) < 8) ∨ (¬ ((m 5 5) ≤ 0) ∧ (¬ ((m 11 ((m 5 5) - 1)) < 4))))) then (1:Int) else 0) → gh_T E (gh_yReader_isTooMuch.cls, prog_9_method_6_code, 1, false, 8) (d + 2) 249 [(0, 2, 5)] [(0, x518)] m (fun r m1 => m1 = m ∧ Q r) := by
      rintro _ rfl
      exact gh_ret8 rfl gd_Reader_isTooMuch_249 gh_ib01 ⟨rfl, h⟩
    refine gh_jge (tgt := 244) gd_Reader_isTooMuch_207 (by decide) (fun c519 => ?_) (fun c519 => ?_)
    · have hz : True := trivial
      have hk := hk c519
      refine gh_aload_n gd_Reader_isTooMuch_210 0 rfl (by decide) ?_
      refine gf_5_0 gd_Reader_isTooMuch_211 gh_k217 hF ?_
      obtain ⟨q513, hk⟩ := hk
      refine cv_Draft_allNames (d := d + 1) gd_Reader_isTooMuch_214 gh_k747 hF (Nat.le_of_ble_eq_true rfl) (gh_C.pe (e_Draft_allNames (d + 1)  hF q513) ?_)
      refine gh_bipush gd_Reader_isTooMuch_217 (by decide) (gh_r0 rfl) ?_
      refine gh_jge (tgt := 244) gd_Reader_isTooMuch_219 (by decide) (fun c520 => ?_) (fun c520 => ?_)
      · have hz : True := trivial
        have hk := hk c520
        refine gh_aload_n gd_Reader_isTooMuch_222 0 rfl (by decide) ?_
        refine gf_5_5 gd_Reader_isTooMuch_223 gh_k225 hF rfl ?_
        refine gh_zle (tgt := 248) gd_Reader_isTooMuch_226 (by decide) (fun c521 => ?_) (fun c521 => ?_)
        · have hz : True := trivial
          refine gh_iconst gd_Reader_isTooMuch_248 (gh_r0 rfl) ?_
          exact k517 _ (if_neg (c := (¬ ((m 6 3) < 20) ∨ (¬ ((x_Draft_allNames m) < 8) ∨ (¬ ((m 5 5) ≤ 0) ∧ (¬ ((m 11 ((m 5 5) - 1)) < 4)))))) (fun z => z.elim (fun w => w c519) (fun z => z.elim (fun w => w c520) (fun z => z.1 c521)))).symm
        · have hz : True := trivial
          have hk := hk c521
          refine gh_aload_n gd_Reader_isTooMuch_229 0 rfl (by decide) ?_
          refine gf_5_7 gd_Reader_isTooMuch_230 gh_k227 hF ?_
          refine gh_aload_n gd_Reader_isTooMuch_233 0 rfl (by decide) ?_
          refine gf_5_5 gd_Reader_isTooMuch_234 gh_k225 hF rfl ?_
          refine gh_iconst gd_Reader_isTooMuch_237 (gh_r0 rfl) ?_
          obtain ⟨q514, hk⟩ := hk
          refine gh_isub gd_Reader_isTooMuch_238 q514 ?_
          obtain ⟨q515, hk⟩ := hk
          have q516 := hk
          refine la_11 gd_Reader_isTooMuch_239 hF q515 q516 rfl ?_
          refine gh_iconst gd_Reader_isTooMuch_240 (gh_r0 rfl) ?_
          refine gh_jlt (tgt := 248) gd_Reader_isTooMuch_241 (by decide) (fun c522 => ?_) (fun c522 => ?_)
          · have hz : True := trivial
            refine gh_iconst gd_Reader_isTooMuch_248 (gh_r0 rfl) ?_
            exact k517 _ (if_neg (c := (¬ ((m 6 3) < 20) ∨ (¬ ((x_Draft_allNames m) < 8) ∨ (¬ ((m 5 5) ≤ 0) ∧ (¬ ((m 11 ((m 5 5) - 1)) < 4)))))) (fun z => z.elim (fun w => w c519) (fun z => z.elim (fun w => w c520) (fun z => (not_not_intro c522) z.2)))).symm
          · have hz : True := trivial
            refine gh_iconst gd_Reader_isTooMuch_244 (gh_r0 rfl) ?_
            refine gh_goto (tgt := 249) gd_Reader_isTooMuch_245 (by decide) ?_
            exact k517 _ (if_pos (c := (¬ ((m 6 3) < 20) ∨ (¬ ((x_Draft_allNames m) < 8) ∨ (¬ ((m 5 5) ≤ 0) ∧ (¬ ((m 11 ((m 5 5) - 1)) < 4)))))) (Or.inr (Or.inr ⟨c521, c522⟩))).symm
      · have hz : True := trivial
        refine gh_iconst gd_Reader_isTooMuch_244 (gh_r0 rfl) ?_
        refine gh_goto (tgt := 249) gd_Reader_isTooMuch_245 (by decide) ?_
        exact k517 _ (if_pos (c := (¬ ((m 6 3) < 20) ∨ (¬ ((x_Draft_allNames m) < 8) ∨ (¬ ((m 5 5) ≤ 0) ∧ (¬ ((m 11 ((m 5 5) - 1)) < 4)))))) (Or.inr (Or.inl c520))).symm
    · have hz : True := trivial
      refine gh_iconst gd_Reader_isTooMuch_244 (gh_r0 rfl) ?_
      refine gh_goto (tgt := 249) gd_Reader_isTooMuch_245 (by decide) ?_
      exact k517 _ (if_pos (c := (¬ ((m 6 3) < 20) ∨ (¬ ((x_Draft_allNames m) < 8) ∨ (¬ ((m 5 5) ≤ 0) ∧ (¬ ((m 11 ((m 5 5) - 1)) < 4)))))) (Or.inl c519)).symm
  obtain ⟨hA, h⟩ := h
  by_cases c523 : (m 3 2) = 42 ∨ (m 3 2) = 43 ∨ (m 3 2) = 63
  · have h := hA c523
    have k524 : gh_T E (gh_yReader_isTooMuch.cls, prog_9_method_6_code, 1, false, 8) (d + 2) 250 [(0, 2, 5)] [] m (fun r m1 => m1 = m ∧ Q r) := by
      refine gh_aload_n gd_Reader_isTooMuch_250 0 rfl (by decide) ?_
      refine gf_5_0 gd_Reader_isTooMuch_251 gh_k217 hF ?_
      refine gf_6_3 gd_Reader_isTooMuch_254 gh_k198 hF rfl ?_
      refine gh_iconst gd_Reader_isTooMuch_257 (gh_r0 rfl) ?_
      obtain ⟨q525, h⟩ := h
      refine gh_iadd gd_Reader_isTooMuch_258 q525 ?_
      refine gh_bipush gd_Reader_isTooMuch_259 (by decide) (gh_r0 rfl) ?_
      obtain ⟨hk, h⟩ := h
      have k527 : ∀ x528 : Int, x528 = (if (¬ (((m 6 3) + 2) ≤ 20) ∨ (¬ ((x_Draft_allNames m) < 8))) then (1:Int) else 0) → gh_T E (gh_yReader_isTooMuch.cls, prog_9_method_6_code, 1, false, 8) (d + 2) 281 [(0, 2, 5)] [(0, x528)] m (fun r m1 => m1 = m ∧ Q r) := by
        rintro _ rfl
        exact gh_ret8 rfl gd_Reader_isTooMuch_281 gh_ib01 ⟨rfl, h⟩
      refine gh_jgt (tgt := 276) gd_Reader_isTooMuch_261 (by decide) (fun c529 => ?_) (fun c529 => ?_)
      · have hz : True := trivial
        have hk := hk c529
        refine gh_aload_n gd_Reader_isTooMuch_264 0 rfl (by decide) ?_
        refine gf_5_0 gd_Reader_isTooMuch_265 gh_k217 hF ?_
        have q526 := hk
        refine cv_Draft_allNames (d := d + 1) gd_Reader_isTooMuch_268 gh_k747 hF (Nat.le_of_ble_eq_true rfl) (gh_C.pe (e_Draft_allNames (d + 1)  hF q526) ?_)
        refine gh_bipush gd_Reader_isTooMuch_271 (by decide) (gh_r0 rfl) ?_
        refine gh_jlt (tgt := 280) gd_Reader_isTooMuch_273 (by decide) (fun c530 => ?_) (fun c530 => ?_)
        · have hz : True := trivial
          refine gh_iconst gd_Reader_isTooMuch_280 (gh_r0 rfl) ?_
          exact k527 _ (if_neg (c := (¬ (((m 6 3) + 2) ≤ 20) ∨ (¬ ((x_Draft_allNames m) < 8)))) (fun z => z.elim (fun w => w c529) (not_not_intro c530))).symm
        · have hz : True := trivial
          refine gh_iconst gd_Reader_isTooMuch_276 (gh_r0 rfl) ?_
          refine gh_goto (tgt := 281) gd_Reader_isTooMuch_277 (by decide) ?_
          exact k527 _ (if_pos (c := (¬ (((m 6 3) + 2) ≤ 20) ∨ (¬ ((x_Draft_allNames m) < 8)))) (Or.inr c530)).symm
      · have hz : True := trivial
        refine gh_iconst gd_Reader_isTooMuch_276 (gh_r0 rfl) ?_
        refine gh_goto (tgt := 281) gd_Reader_isTooMuch_277 (by decide) ?_
        exact k527 _ (if_pos (c := (¬ (((m 6 3) + 2) ≤ 20) ∨ (¬ ((x_Draft_allNames m) < 8)))) (Or.inl c529)).symm
    rcases c523 with e | e | e
    · exact gh_lookup (tgt := 250) gd_Reader_isTooMuch_7 (by decide) (by rw [e]; decide) k524
    · exact gh_lookup (tgt := 250) gd_Reader_isTooMuch_7 (by decide) (by rw [e]; decide) k524
    · exact gh_lookup (tgt := 250) gd_Reader_isTooMuch_7 (by decide) (by rw [e]; decide) k524
  obtain ⟨hA, h⟩ := h
  by_cases c531 : (m 3 2) = 59 ∨ (m 3 2) = 124
  · have h := hA c531
    have k532 : gh_T E (gh_yReader_isTooMuch.cls, prog_9_method_6_code, 1, false, 8) (d + 2) 180 [(0, 2, 5)] [] m (fun r m1 => m1 = m ∧ Q r) := by
      refine gh_aload_n gd_Reader_isTooMuch_180 0 rfl (by decide) ?_
      refine gf_5_0 gd_Reader_isTooMuch_181 gh_k217 hF ?_
      refine gf_6_3 gd_Reader_isTooMuch_184 gh_k198 hF rfl ?_
      refine gh_bipush gd_Reader_isTooMuch_187 (by decide) (gh_r0 rfl) ?_
      have k533 : ∀ x534 : Int, x534 = (if (¬ ((m 6 3) < 20)) then (1:Int) else 0) → gh_T E (gh_yReader_isTooMuch.cls, prog_9_method_6_code, 1, false, 8) (d + 2) 197 [(0, 2, 5)] [(0, x534)] m (fun r m1 => m1 = m ∧ Q r) := by
        rintro _ rfl
        exact gh_ret8 rfl gd_Reader_isTooMuch_197 gh_ib01 ⟨rfl, h⟩
      refine gh_jlt (tgt := 196) gd_Reader_isTooMuch_189 (by decide) (fun c535 => ?_) (fun c535 => ?_)
      · have hz : True := trivial
        refine gh_iconst gd_Reader_isTooMuch_196 (gh_r0 rfl) ?_
        exact k533 _ (if_neg (c := (¬ ((m 6 3) < 20))) (not_not_intro c535)).symm
      · have hz : True := trivial
        refine gh_iconst gd_Reader_isTooMuch_192 (gh_r0 rfl) ?_
        refine gh_goto (tgt := 197) gd_Reader_isTooMuch_193 (by decide) ?_
        exact k533 _ (if_pos (c := (¬ ((m 6 3) < 20))) c535).symm
    rcases c531 with e | e
    · exact gh_lookup (tgt := 180) gd_Reader_isTooMuch_7 (by decide) (by rw [e]; decide) k532
    · exact gh_lookup (tgt := 180) gd_Reader_isTooMuch_7 (by decide) (by rw [e]; decide) k532
  have n536 : ¬ ((m 3 2) = 1) := fun z => c491 (by simp [z])
  have n537 : ¬ ((m 3 2) = 2) := fun z => c491 (by simp [z])
  have n538 : ¬ ((m 3 2) = 3) := fun z => c491 (by simp [z])
  have n539 : ¬ ((m 3 2) = 40) := c508
  have n540 : ¬ ((m 3 2) = 41) := c512
  have n541 : ¬ ((m 3 2) = 42) := fun z => c523 (by simp [z])
  have n542 : ¬ ((m 3 2) = 43) := fun z => c523 (by simp [z])
  have n543 : ¬ ((m 3 2) = 63) := fun z => c523 (by simp [z])
  have n544 : ¬ ((m 3 2) = 59) := fun z => c531 (by simp [z])
  have n545 : ¬ ((m 3 2) = 124) := fun z => c531 (by simp [z])
  refine gh_lookup (tgt := 282) gd_Reader_isTooMuch_7 (by decide) (by simp [Op.lookupswitch.offset]; rw [if_neg (Ne.symm n536), if_neg (Ne.symm n537), if_neg (Ne.symm n538), if_neg (Ne.symm n539), if_neg (Ne.symm n540), if_neg (Ne.symm n541), if_neg (Ne.symm n542), if_neg (Ne.symm n544), if_neg (Ne.symm n543), if_neg (Ne.symm n545)]; rfl) ?_
  have h := h c491 c508 c512 c523 c531
  refine gh_iconst gd_Reader_isTooMuch_282 (gh_r0 rfl) ?_
  exact gh_ret8 rfl gd_Reader_isTooMuch_283 (by decide) ⟨rfl, h⟩
def w_Reader_faultHere (m : gh_M) (Q : Int → Prop) : Prop := (((m 3 2) = 5 → Q 1) ∧ (¬ ((m 3 2) = 5) → w_Reader_canStand m (fun r547 => ((r547 = 0 → Q 2) ∧ (¬ (r547 = 0) → w_Reader_isTooMuch m (fun r550 => ((r550 = 0 → ∃ J71 : Prop, (J71 → Q 0) ∧ (((((m 5 4) = 0) ∧ ((m 3 2) = 1)) → w_Tape_key m (fun r555 => w_Draft_find r555 m (fun r557 => ((r557 = (-1) → J71) ∧ (¬ (r557 = (-1)) → Q 4))))) ∧ (¬ (((m 5 4) = 0) ∧ ((m 3 2) = 1)) → J71))) ∧ (¬ (r550 = 0) → Q 3))))))))
theorem s_Reader_faultHere {E : gh_E} {m : gh_M} {Q : Int → Prop} (d : Nat) (hF : gh_F m) (h : w_Reader_faultHere m Q) : gh_C E gh_yReader_faultHere prog_9_method_4_code 1 (some .int) 0 (d + 3) [(2, 5)] m (fun r m1 => m1 = m ∧ Q r) := by
  refine gh_enter2 (L := [(0, 2, 5)]) (by decide +kernel) gh_rt0 (Nat.le_of_ble_eq_true rfl) rfl rfl ?_
  unfold w_Reader_faultHere at h
  refine gh_aload_n gd_Reader_faultHere_0 0 rfl (by decide) ?_
  refine gf_5_3 gd_Reader_faultHere_1 gh_k223 hF ?_
  refine gf_3_2 gd_Reader_faultHere_4 gh_k164 hF rfl ?_
  refine gh_iconst gd_Reader_faultHere_7 (gh_r0 rfl) ?_
  obtain ⟨hA, hB⟩ := h
  refine gh_jne (tgt := 13) gd_Reader_faultHere_8 (by decide) (fun c546 => ?_) (fun c546 => ?_)
  · have h := hA c546
    refine gh_iconst gd_Reader_faultHere_11 (gh_r0 rfl) ?_
    exact gh_ret0 rfl gd_Reader_faultHere_12 ⟨rfl, h⟩
  · have h := hB c546
    refine gh_aload_n gd_Reader_faultHere_13 0 rfl (by decide) ?_
    refine cv_Reader_canStand (d := d + 2) gd_Reader_faultHere_14 gh_k739 hF (Nat.le_of_ble_eq_true rfl) (gh_C.pw (s_Reader_canStand (d + 2) hF h) (fun r547 h => ?_))
    obtain ⟨hA, hB⟩ := h
    refine gh_zne (tgt := 22) gd_Reader_faultHere_17 (by decide) (fun c549 => ?_) (fun c549 => ?_)
    · have h := hA c549
      refine gh_iconst gd_Reader_faultHere_20 (gh_r0 rfl) ?_
      exact gh_ret0 rfl gd_Reader_faultHere_21 ⟨rfl, h⟩
    · have h := hB c549
      refine gh_aload_n gd_Reader_faultHere_22 0 rfl (by decide) ?_
      refine cv_Reader_isTooMuch (d := d + 2) gd_Reader_faultHere_23 gh_k743 hF (Nat.le_of_ble_eq_true rfl) (gh_C.pw (s_Reader_isTooMuch d hF h) (fun r550 h => ?_))
      obtain ⟨hA, hB⟩ := h
      refine gh_zeq (tgt := 31) gd_Reader_faultHere_26 (by decide) (fun c552 => ?_) (fun c552 => ?_)
      · have h := hA c552
        refine gh_aload_n gd_Reader_faultHere_31 0 rfl (by decide) ?_
        refine gf_5_4 gd_Reader_faultHere_32 gh_k224 hF rfl ?_
        obtain ⟨J71, hJ71, h⟩ := h
        have hJ71 : gh_F m → J71 → gh_T E (gh_yReader_faultHere.cls, prog_9_method_4_code, 1, false, 0) (d + 3) 71 [] [] m (fun r m1 => m1 = m ∧ Q r) := by
          intro hF hj
          have h := hJ71 hj
          refine gh_iconst gd_Reader_faultHere_71 (gh_r0 rfl) ?_
          exact gh_ret0 rfl gd_Reader_faultHere_72 ⟨rfl, h⟩
        obtain ⟨hA, hB⟩ := h
        have k553 : (((m 5 4) = 0) ∧ ((m 3 2) = 1)) → gh_T E (gh_yReader_faultHere.cls, prog_9_method_4_code, 1, false, 0) (d + 3) 49 [(0, 2, 5)] [] m (fun r m1 => m1 = m ∧ Q r) := by
          intro c
          have h := hA c
          refine gh_aload_n gd_Reader_faultHere_49 0 rfl (by decide) ?_
          refine gf_5_0 gd_Reader_faultHere_50 gh_k217 hF ?_
          refine gh_aload_n gd_Reader_faultHere_53 0 rfl (by decide) ?_
          refine gf_5_3 gd_Reader_faultHere_54 gh_k223 hF ?_
          refine cv_Tape_key (d := d + 2) gd_Reader_faultHere_57 gh_k751 hF (Nat.le_of_ble_eq_true rfl) (gh_C.pw (s_Tape_key (d + 1) hF h) (fun r555 h => ?_))
          refine cv_Draft_find (d := d + 2) gd_Reader_faultHere_60 gh_k755 hF (Nat.le_of_ble_eq_true rfl) (gh_C.pw (s_Draft_find (d + 2) r555 hF h) (fun r557 h => ?_))
          refine gh_iconst gd_Reader_faultHere_63 (gh_r0 rfl) ?_
          obtain ⟨hA, hB⟩ := h
          refine gh_jeq (tgt := 71) gd_Reader_faultHere_64 (by decide) (fun c559 => ?_) (fun c559 => ?_)
          · have h := hA c559
            refine gh_pick (L2 := []) [] rfl ?_
            exact hJ71 hF h
          · have h := hB c559
            refine gh_iconst gd_Reader_faultHere_67 (gh_r0 rfl) ?_
            refine gh_goto (tgt := 72) gd_Reader_faultHere_68 (by decide) ?_
            exact gh_ret0 rfl gd_Reader_faultHere_72 ⟨rfl, h⟩
        have k554 : ¬ (((m 5 4) = 0) ∧ ((m 3 2) = 1)) → gh_T E (gh_yReader_faultHere.cls, prog_9_method_4_code, 1, false, 0) (d + 3) 71 [(0, 2, 5)] [] m (fun r m1 => m1 = m ∧ Q r) := by
          intro c
          have h := hB c
          refine gh_pick (L2 := []) [] rfl ?_
          exact hJ71 hF h
        refine gh_zne (tgt := 71) gd_Reader_faultHere_35 (by decide) (fun c560 => ?_) (fun c560 => ?_)
        · have hz : True := trivial
          refine gh_aload_n gd_Reader_faultHere_38 0 rfl (by decide) ?_
          refine gf_5_3 gd_Reader_faultHere_39 gh_k223 hF ?_
          refine gf_3_2 gd_Reader_faultHere_42 gh_k164 hF rfl ?_
          refine gh_iconst gd_Reader_faultHere_45 (gh_r0 rfl) ?_
          refine gh_jne (tgt := 71) gd_Reader_faultHere_46 (by decide) (fun c561 => ?_) (fun c561 => ?_)
          · have hz : True := trivial
            exact k553 ⟨c560, c561⟩
          · have hz : True := trivial
            exact k554 (fun z => c561 z.2)
        · have hz : True := trivial
          exact k554 (fun z => c560 z.1)
      · have h := hB c552
        refine gh_iconst gd_Reader_faultHere_29 (gh_r0 rfl) ?_
        exact gh_ret0 rfl gd_Reader_faultHere_30 ⟨rfl, h⟩
def w_Draft_tell (v1 : Int) (m : gh_M) (Q : Int → gh_M → Prop) : Prop := (((m 6 1) < 8 → 0 ≤ m 6 1 ∧ (m 6 1) < 8 ∧ gh_i ((m 6 1) + 1) ∧ Q 0 (gh_u (gh_u m 7 (m 6 1) v1) 6 1 ((m 6 1) + 1))) ∧ (¬ ((m 6 1) < 8) → Q 0 m))
theorem s_Draft_tell {E : gh_E} {m : gh_M} {Q : Int → gh_M → Prop} (d : Nat) (v1 : Int) (hF : gh_F m) (h : w_Draft_tell v1 m Q) : gh_C E gh_yDraft_tell prog_3_method_5_code 2 none 9 (d + 0) [(2, 6), (0, v1)] m (fun r m1 => gh_F m1 ∧ Q r m1) := by
  refine gh_enter2 (L := [(0, 2, 6), (1, 0, v1)]) (by decide +kernel) gh_rt9 (Nat.le_of_ble_eq_true rfl) rfl rfl ?_
  unfold w_Draft_tell at h
  refine gh_aload_n gd_Draft_tell_0 0 rfl (by decide) ?_
  refine gf_6_1 gd_Draft_tell_1 gh_k194 hF rfl ?_
  refine gh_bipush gd_Draft_tell_4 (by decide) (gh_r0 rfl) ?_
  obtain ⟨hA, hB⟩ := h
  refine gh_jge (tgt := 29) gd_Draft_tell_6 (by decide) (fun c562 => ?_) (fun c562 => ?_)
  · have h := hA c562
    refine gh_aload_n gd_Draft_tell_9 0 rfl (by decide) ?_
    refine gf_6_0 gd_Draft_tell_10 gh_k193 hF ?_
    refine gh_aload_n gd_Draft_tell_13 0 rfl (by decide) ?_
    refine gf_6_1 gd_Draft_tell_14 gh_k194 hF rfl ?_
    refine gh_iload_n gd_Draft_tell_17 1 rfl ?_
    obtain ⟨q563, h⟩ := h
    obtain ⟨q564, h⟩ := h
    refine sa_7 gd_Draft_tell_18 hF q563 q564 (fun hF => ?_)
    refine gh_aload_n gd_Draft_tell_19 0 rfl (by decide) ?_
    refine gh_dup gd_Draft_tell_20 (by decide) ?_
    refine gf_6_1 gd_Draft_tell_21 gh_k194 hF (gh_u_a (by decide)) ?_
    refine gh_iconst gd_Draft_tell_24 (gh_r0 rfl) ?_
    obtain ⟨q565, h⟩ := h
    refine gh_iadd gd_Draft_tell_25 q565 ?_
    refine pf_6_1 gd_Draft_tell_26 gh_k194 hF (fun hF => ?_)
    exact gh_ret9 rfl gd_Draft_tell_29 ⟨hF, h⟩
  · have h := hB c562
    exact gh_ret9 rfl gd_Draft_tell_29 ⟨hF, h⟩
def w_Reader_push (v1 : Int) (m : gh_M) (Q : Int → gh_M → Prop) : Prop := 0 ≤ m 5 5 ∧ (m 5 5) < 4 ∧ (((m 11 (m 5 5)) < 4 → gh_i ((m 5 5) * 4) ∧ 0 ≤ m 5 5 ∧ (m 5 5) < 4 ∧ gh_i (((m 5 5) * 4) + (m 11 (m 5 5))) ∧ 0 ≤ ((m 5 5) * 4) + (m 11 (m 5 5)) ∧ (((m 5 5) * 4) + (m 11 (m 5 5))) < 16 ∧ 0 ≤ m 5 5 ∧ (m 5 5) < 4 ∧ gh_i ((m 11 (m 5 5)) + 1) ∧ 0 ≤ m 5 5 ∧ (m 5 5) < 4 ∧ Q 0 (gh_u (gh_u m 12 (((m 5 5) * 4) + (m 11 (m 5 5))) v1) 11 (m 5 5) ((m 11 (m 5 5)) + 1))) ∧ (¬ ((m 11 (m 5 5)) < 4) → Q 0 m))
theorem s_Reader_push {E : gh_E} {m : gh_M} {Q : Int → gh_M → Prop} (d : Nat) (v1 : Int) (hF : gh_F m) (h : w_Reader_push v1 m Q) : gh_C E gh_yReader_push prog_9_method_10_code 2 none 9 (d + 0) [(2, 5), (0, v1)] m (fun r m1 => gh_F m1 ∧ Q r m1) := by
  refine gh_enter2 (L := [(0, 2, 5), (1, 0, v1)]) (by decide +kernel) gh_rt9 (Nat.le_of_ble_eq_true rfl) rfl rfl ?_
  unfold w_Reader_push at h
  refine gh_aload_n gd_Reader_push_0 0 rfl (by decide) ?_
  refine gf_5_7 gd_Reader_push_1 gh_k227 hF ?_
  refine gh_aload_n gd_Reader_push_4 0 rfl (by decide) ?_
  refine gf_5_5 gd_Reader_push_5 gh_k225 hF rfl ?_
  obtain ⟨q566, h⟩ := h
  obtain ⟨q567, h⟩ := h
  refine la_11 gd_Reader_push_8 hF q566 q567 rfl ?_
  refine gh_iconst gd_Reader_push_9 (gh_r0 rfl) ?_
  obtain ⟨hA, hB⟩ := h
  refine gh_jge (tgt := 48) gd_Reader_push_10 (by decide) (fun c568 => ?_) (fun c568 => ?_)
  · have h := hA c568
    refine gh_aload_n gd_Reader_push_13 0 rfl (by decide) ?_
    refine gf_5_8 gd_Reader_push_14 gh_k228 hF ?_
    refine gh_aload_n gd_Reader_push_17 0 rfl (by decide) ?_
    refine gf_5_5 gd_Reader_push_18 gh_k225 hF rfl ?_
    refine gh_iconst gd_Reader_push_21 (gh_r0 rfl) ?_
    obtain ⟨q569, h⟩ := h
    refine gh_imul gd_Reader_push_22 q569 ?_
    refine gh_aload_n gd_Reader_push_23 0 rfl (by decide) ?_
    refine gf_5_7 gd_Reader_push_24 gh_k227 hF ?_
    refine gh_aload_n gd_Reader_push_27 0 rfl (by decide) ?_
    refine gf_5_5 gd_Reader_push_28 gh_k225 hF rfl ?_
    obtain ⟨q570, h⟩ := h
    obtain ⟨q571, h⟩ := h
    refine la_11 gd_Reader_push_31 hF q570 q571 rfl ?_
    obtain ⟨q572, h⟩ := h
    refine gh_iadd gd_Reader_push_32 q572 ?_
    refine gh_iload_n gd_Reader_push_33 1 rfl ?_
    obtain ⟨q573, h⟩ := h
    obtain ⟨q574, h⟩ := h
    refine sa_12 gd_Reader_push_34 hF q573 q574 (fun hF => ?_)
    refine gh_aload_n gd_Reader_push_35 0 rfl (by decide) ?_
    refine gf_5_7 gd_Reader_push_36 gh_k227 hF ?_
    refine gh_aload_n gd_Reader_push_39 0 rfl (by decide) ?_
    refine gf_5_5 gd_Reader_push_40 gh_k225 hF (gh_u_a (by decide)) ?_
    refine gh_dup2 gd_Reader_push_43 (by decide) (by decide) ?_
    obtain ⟨q575, h⟩ := h
    obtain ⟨q576, h⟩ := h
    refine la_11 gd_Reader_push_44 hF q575 q576 (gh_u_a (by decide)) ?_
    refine gh_iconst gd_Reader_push_45 (gh_r0 rfl) ?_
    obtain ⟨q577, h⟩ := h
    refine gh_iadd gd_Reader_push_46 q577 ?_
    obtain ⟨q578, h⟩ := h
    obtain ⟨q579, h⟩ := h
    refine sa_11 gd_Reader_push_47 hF q578 q579 (fun hF => ?_)
    exact gh_ret9 rfl gd_Reader_push_48 ⟨hF, h⟩
  · have h := hB c568
    exact gh_ret9 rfl gd_Reader_push_48 ⟨hF, h⟩
def f_Tape_setOfClass_13 (Q : Int → Prop) (m : gh_M) (K13 : Int → Int → Prop) (v1 : Int) (v2 : Int) : Prop := gh_i ((m 3 3) + 3) ∧ k_Tape_signAt ((m 3 3) + 3) m ∧ ((v2 ≤ (x_Tape_signAt ((m 3 3) + 3) m) → gh_i (v2 - 97) ∧ ∀ v1' : Int, v1' = gh_ior_f v1 (gh_ishl_f 1 (v2 - 97)) → gh_i (v2 + 1) ∧ K13 v1' (v2 + 1)) ∧ (¬ (v2 ≤ (x_Tape_signAt ((m 3 3) + 3) m)) → Q v1))
def w_Tape_setOfClass (m : gh_M) (Q : Int → Prop) : Prop := gh_i ((m 3 3) + 1) ∧ k_Tape_signAt ((m 3 3) + 1) m ∧ ∀ v2 : Int, v2 = x_Tape_signAt ((m 3 3) + 1) m → gh_L2 (fun K13 v1 v2 => f_Tape_setOfClass_13 Q m K13 v1 v2) 0 v2
theorem b_Tape_setOfClass_13 {E : gh_E} {Q : Int → Prop} {K13 : Int → Int → Prop} (d : Nat) {m : gh_M} (hK : ∀ (v1 : Int) (v2 : Int), gh_F m → K13 v1 v2 → gh_T E (gh_yTape_setOfClass.cls, prog_10_method_17_code, 3, false, 0) (d + 1) 13 [(0, 2, 3), (1, 0, v1), (2, 0, v2)] [] m (fun r m1 => m1 = m ∧ Q r)) (v1 : Int) (v2 : Int) (hF : gh_F m) (h : f_Tape_setOfClass_13 Q m K13 v1 v2) : gh_T E (gh_yTape_setOfClass.cls, prog_10_method_17_code, 3, false, 0) (d + 1) 13 [(0, 2, 3), (1, 0, v1), (2, 0, v2)] [] m (fun r m1 => m1 = m ∧ Q r) := by
  have hK13 := hK
  unfold f_Tape_setOfClass_13 at h
  refine gh_iload_n gd_Tape_setOfClass_13 2 rfl ?_
  refine gh_aload_n gd_Tape_setOfClass_14 0 rfl (by decide) ?_
  refine gh_aload_n gd_Tape_setOfClass_15 0 rfl (by decide) ?_
  refine gf_3_3 gd_Tape_setOfClass_16 gh_k167 hF rfl ?_
  refine gh_iconst gd_Tape_setOfClass_19 (gh_r0 rfl) ?_
  obtain ⟨q582, h⟩ := h
  refine gh_iadd gd_Tape_setOfClass_20 q582 ?_
  obtain ⟨q583, h⟩ := h
  refine cv_Tape_signAt (d := d) gd_Tape_setOfClass_21 gh_k713 hF (Nat.le_of_ble_eq_true rfl) (gh_C.pe (e_Tape_signAt d ((m 3 3) + 3) hF q583) ?_)
  obtain ⟨hA, hB⟩ := h
  refine gh_jgt (tgt := 42) gd_Tape_setOfClass_24 (by decide) (fun c584 => ?_) (fun c584 => ?_)
  · have h := hA c584
    refine gh_iload_n gd_Tape_setOfClass_27 1 rfl ?_
    refine gh_iconst gd_Tape_setOfClass_28 (gh_r0 rfl) ?_
    refine gh_iload_n gd_Tape_setOfClass_29 2 rfl ?_
    refine gh_bipush gd_Tape_setOfClass_30 (by decide) (gh_r0 rfl) ?_
    obtain ⟨q585, h⟩ := h
    refine gh_isub gd_Tape_setOfClass_32 q585 ?_
    refine gh_ishl gd_Tape_setOfClass_33 ?_
    refine gh_ior gd_Tape_setOfClass_34 ?_
    refine gh_name (fun v1' hn => ?_)
    have h := h v1' hn
    refine gh_istore_n (L2 := [(1, 0, v1'), (0, 2, 3), (2, 0, v2)]) gd_Tape_setOfClass_35 (by decide) rfl ?_
    obtain ⟨q586, h⟩ := h
    refine gh_iinc (L2 := [(2, 0, v2 + 1), (1, 0, v1'), (0, 2, 3)]) gd_Tape_setOfClass_36 2 rfl q586 (by decide) rfl ?_
    refine gh_goto (tgt := 13) gd_Tape_setOfClass_39 (by decide) ?_
    refine gh_pick (L2 := [(0, 2, 3), (1, 0, v1'), (2, 0, v2 + 1)]) [2, 1, 0] rfl ?_
    exact hK13 v1' (v2 + 1) hF h
  · have h := hB c584
    refine gh_iload_n gd_Tape_setOfClass_42 1 rfl ?_
    exact gh_ret0 rfl gd_Tape_setOfClass_43 ⟨rfl, h⟩
theorem s_Tape_setOfClass {E : gh_E} {m : gh_M} {Q : Int → Prop} (d : Nat) (hF : gh_F m) (h : w_Tape_setOfClass m Q) : gh_C E gh_yTape_setOfClass prog_10_method_17_code 3 (some .int) 0 (d + 1) [(2, 3)] m (fun r m1 => m1 = m ∧ Q r) := by
  refine gh_enter2 (L := [(0, 2, 3)]) (by decide +kernel) gh_rt0 (Nat.le_of_ble_eq_true rfl) rfl rfl ?_
  unfold w_Tape_setOfClass at h
  refine gh_iconst gd_Tape_setOfClass_0 (gh_r0 rfl) ?_
  refine gh_istore_n (L2 := [(1, 0, 0), (0, 2, 3)]) gd_Tape_setOfClass_1 (by decide) rfl ?_
  refine gh_aload_n gd_Tape_setOfClass_2 1 rfl (by decide) ?_
  refine gh_aload_n gd_Tape_setOfClass_3 1 rfl (by decide) ?_
  refine gf_3_3 gd_Tape_setOfClass_4 gh_k167 hF rfl ?_
  refine gh_iconst gd_Tape_setOfClass_7 (gh_r0 rfl) ?_
  obtain ⟨q580, h⟩ := h
  refine gh_iadd gd_Tape_setOfClass_8 q580 ?_
  obtain ⟨q581, h⟩ := h
  refine cv_Tape_signAt (d := d) gd_Tape_setOfClass_9 gh_k713 hF (Nat.le_of_ble_eq_true rfl) (gh_C.pe (e_Tape_signAt d ((m 3 3) + 1) hF q581) ?_)
  refine gh_name (fun v2 hn => ?_)
  have h := h v2 hn
  refine gh_istore_n (L2 := [(2, 0, v2), (1, 0, 0), (0, 2, 3)]) gd_Tape_setOfClass_12 (by decide) rfl ?_
  refine gh_pick (L2 := [(0, 2, 3), (1, 0, 0), (2, 0, v2)]) [2, 1, 0] rfl ?_
  exact gh_L2_sound (T := fun v1 v2 => gh_T E (gh_yTape_setOfClass.cls, prog_10_method_17_code, 3, false, 0) (d + 1) 13 [(0, 2, 3), (1, 0, v1), (2, 0, v2)] [] m (fun r m1 => m1 = m ∧ Q r)) (fun _ _ => gh_F m) (fun K13 v1 v2 hK hF h => b_Tape_setOfClass_13 d hK v1 v2 hF h) 0 v2 hF h
def f_Reader_takeWord_81 (J110 : gh_M → Prop) (K81 : Int → gh_M → Prop) (v1 : Int) (m : gh_M) : Prop := k_Tape_width m ∧ ((v1 < (x_Tape_width m) → k_Tape_setOfQuote v1 m ∧ w_Reader_push (x_Tape_setOfQuote v1 m) m (fun _ m608 => gh_i (v1 + 1) ∧ K81 (v1 + 1) m608)) ∧ (¬ (v1 < (x_Tape_width m)) → J110 m))
def w_Reader_takeWord (m : gh_M) (Q : Int → gh_M → Prop) : Prop := (((m 5 4) = 0 → w_Tape_key m (fun r588 => w_Draft_tell r588 m (fun _ m591 => Q 0 (gh_u m591 5 4 1)))) ∧ (¬ ((m 5 4) = 0) → ∃ J110 : gh_M → Prop, (∀ (m : gh_M), J110 m → k_Tape_width m ∧ Q 0 (gh_u m 5 6 (x_Tape_width m))) ∧ (((m 3 2) = 1 → w_Tape_key m (fun r594 => gh_i ((-1) - r594) ∧ w_Reader_push ((-1) - r594) m (fun _ m598 => J110 m598))) ∧ (¬ ((m 3 2) = 1) → (((m 3 2) = 3 → w_Tape_setOfClass m (fun r600 => w_Reader_push r600 m (fun _ m603 => J110 m603))) ∧ (¬ ((m 3 2) = 3) → gh_M1 (fun K81 v1 m => f_Reader_takeWord_81 J110 K81 v1 m) 0 m))))))
theorem b_Reader_takeWord_81 {E : gh_E} {J110 : gh_M → Prop} {Q : Int → gh_M → Prop} {K81 : Int → gh_M → Prop} (d : Nat) (hJ110 : ∀ (m : gh_M), gh_F m → J110 m → gh_T E (gh_yReader_takeWord.cls, prog_9_method_8_code, 2, false, 9) (d + 2) 110 [(0, 2, 5)] [] m (fun r m1 => gh_F m1 ∧ Q r m1)) (hK : ∀ (v1 : Int) (m : gh_M), gh_F m → K81 v1 m → gh_T E (gh_yReader_takeWord.cls, prog_9_method_8_code, 2, false, 9) (d + 2) 81 [(0, 2, 5), (1, 0, v1)] [] m (fun r m1 => gh_F m1 ∧ Q r m1)) (v1 : Int) (m : gh_M) (hF : gh_F m) (h : f_Reader_takeWord_81 J110 K81 v1 m) : gh_T E (gh_yReader_takeWord.cls, prog_9_method_8_code, 2, false, 9) (d + 2) 81 [(0, 2, 5), (1, 0, v1)] [] m (fun r m1 => gh_F m1 ∧ Q r m1) := by
  have hK81 := hK
  unfold f_Reader_takeWord_81 at h
  refine gh_iload_n gd_Reader_takeWord_81 1 rfl ?_
  refine gh_aload_n gd_Reader_takeWord_82 0 rfl (by decide) ?_
  refine gf_5_3 gd_Reader_takeWord_83 gh_k223 hF ?_
  obtain ⟨q604, h⟩ := h
  refine cv_Tape_width (d := d + 1) gd_Reader_takeWord_86 gh_k759 hF (Nat.le_of_ble_eq_true rfl) (gh_C.pe (e_Tape_width (d + 1)  hF q604) ?_)
  obtain ⟨hA, hB⟩ := h
  refine gh_jge (tgt := 110) gd_Reader_takeWord_89 (by decide) (fun c605 => ?_) (fun c605 => ?_)
  · have h := hA c605
    refine gh_aload_n gd_Reader_takeWord_92 0 rfl (by decide) ?_
    refine gh_aload_n gd_Reader_takeWord_93 0 rfl (by decide) ?_
    refine gf_5_3 gd_Reader_takeWord_94 gh_k223 hF ?_
    refine gh_iload_n gd_Reader_takeWord_97 1 rfl ?_
    obtain ⟨q606, h⟩ := h
    refine cv_Tape_setOfQuote (d := d + 1) gd_Reader_takeWord_98 gh_k783 hF (Nat.le_of_ble_eq_true rfl) (gh_C.pe (e_Tape_setOfQuote d v1 hF q606) ?_)
    refine cv_Reader_push (d := d + 1) gd_Reader_takeWord_101 gh_k775 hF (Nat.le_of_ble_eq_true rfl) (gh_C.mono (s_Reader_push (d + 1) (x_Tape_setOfQuote v1 m) hF h) (fun r607 m608 hq => ?_))
    obtain ⟨hF, h⟩ := hq
    obtain ⟨q609, h⟩ := h
    refine gh_iinc (L2 := [(1, 0, v1 + 1), (0, 2, 5)]) gd_Reader_takeWord_104 1 rfl q609 (by decide) rfl ?_
    refine gh_goto (tgt := 81) gd_Reader_takeWord_107 (by decide) ?_
    refine gh_pick (L2 := [(0, 2, 5), (1, 0, v1 + 1)]) [1, 0] rfl ?_
    exact hK81 (v1 + 1) m608 hF h
  · have h := hB c605
    refine gh_pick (L2 := [(0, 2, 5)]) [0] rfl ?_
    exact hJ110 m hF h
theorem s_Reader_takeWord {E : gh_E} {m : gh_M} {Q : Int → gh_M → Prop} (d : Nat) (hF : gh_F m) (h : w_Reader_takeWord m Q) : gh_C E gh_yReader_takeWord prog_9_method_8_code 2 none 9 (d + 2) [(2, 5)] m (fun r m1 => gh_F m1 ∧ Q r m1) := by
  refine gh_enter2 (L := [(0, 2, 5)]) (by decide +kernel) gh_rt9 (Nat.le_of_ble_eq_true rfl) rfl rfl ?_
  unfold w_Reader_takeWord at h
  refine gh_aload_n gd_Reader_takeWord_0 0 rfl (by decide) ?_
  refine gf_5_4 gd_Reader_takeWord_1 gh_k224 hF rfl ?_
  obtain ⟨hA, hB⟩ := h
  refine gh_zne (tgt := 27) gd_Reader_takeWord_4 (by decide) (fun c587 => ?_) (fun c587 => ?_)
  · have h := hA c587
    refine gh_aload_n gd_Reader_takeWord_7 0 rfl (by decide) ?_
    refine gf_5_0 gd_Reader_takeWord_8 gh_k217 hF ?_
    refine gh_aload_n gd_Reader_takeWord_11 0 rfl (by decide) ?_
    refine gf_5_3 gd_Reader_takeWord_12 gh_k223 hF ?_
    refine cv_Tape_key (d := d + 1) gd_Reader_takeWord_15 gh_k751 hF (Nat.le_of_ble_eq_true rfl) (gh_C.pw (s_Tape_key d hF h) (fun r588 h => ?_))
    refine cv_Draft_tell (d := d + 1) gd_Reader_takeWord_18 gh_k771 hF (Nat.le_of_ble_eq_true rfl) (gh_C.mono (s_Draft_tell (d + 1) r588 hF h) (fun r590 m591 hq => ?_))
    obtain ⟨hF, h⟩ := hq
    refine gh_aload_n gd_Reader_takeWord_21 0 rfl (by decide) ?_
    refine gh_iconst gd_Reader_takeWord_22 (gh_r0 rfl) ?_
    refine pf_5_4 gd_Reader_takeWord_23 gh_k224 hF (fun hF => ?_)
    exact gh_ret9 rfl gd_Reader_takeWord_26 ⟨hF, h⟩
  · have h := hB c587
    refine gh_aload_n gd_Reader_takeWord_27 0 rfl (by decide) ?_
    refine gf_5_3 gd_Reader_takeWord_28 gh_k223 hF ?_
    refine gf_3_2 gd_Reader_takeWord_31 gh_k164 hF rfl ?_
    refine gh_iconst gd_Reader_takeWord_34 (gh_r0 rfl) ?_
    obtain ⟨J110, hJ110, h⟩ := h
    have hJ110 : ∀ (m : gh_M), gh_F m → J110 m → gh_T E (gh_yReader_takeWord.cls, prog_9_method_8_code, 2, false, 9) (d + 2) 110 [(0, 2, 5)] [] m (fun r m1 => gh_F m1 ∧ Q r m1) := by
      intro m hF hj
      have h := hJ110 m hj
      refine gh_aload_n gd_Reader_takeWord_110 0 rfl (by decide) ?_
      refine gh_aload_n gd_Reader_takeWord_111 0 rfl (by decide) ?_
      refine gf_5_3 gd_Reader_takeWord_112 gh_k223 hF ?_
      obtain ⟨q592, h⟩ := h
      refine cv_Tape_width (d := d + 1) gd_Reader_takeWord_115 gh_k759 hF (Nat.le_of_ble_eq_true rfl) (gh_C.pe (e_Tape_width (d + 1)  hF q592) ?_)
      refine pf_5_6 gd_Reader_takeWord_118 gh_k226 hF (fun hF => ?_)
      exact gh_ret9 rfl gd_Reader_takeWord_121 ⟨hF, h⟩
    obtain ⟨hA, hB⟩ := h
    refine gh_jne (tgt := 54) gd_Reader_takeWord_35 (by decide) (fun c593 => ?_) (fun c593 => ?_)
    · have h := hA c593
      refine gh_aload_n gd_Reader_takeWord_38 0 rfl (by decide) ?_
      refine gh_iconst gd_Reader_takeWord_39 (gh_r0 rfl) ?_
      refine gh_aload_n gd_Reader_takeWord_40 0 rfl (by decide) ?_
      refine gf_5_3 gd_Reader_takeWord_41 gh_k223 hF ?_
      refine cv_Tape_key (d := d + 1) gd_Reader_takeWord_44 gh_k751 hF (Nat.le_of_ble_eq_true rfl) (gh_C.pw (s_Tape_key d hF h) (fun r594 h => ?_))
      obtain ⟨q596, h⟩ := h
      refine gh_isub gd_Reader_takeWord_47 q596 ?_
      refine cv_Reader_push (d := d + 1) gd_Reader_takeWord_48 gh_k775 hF (Nat.le_of_ble_eq_true rfl) (gh_C.mono (s_Reader_push (d + 1) ((-1) - r594) hF h) (fun r597 m598 hq => ?_))
      obtain ⟨hF, h⟩ := hq
      refine gh_goto (tgt := 110) gd_Reader_takeWord_51 (by decide) ?_
      exact hJ110 m598 hF h
    · have h := hB c593
      refine gh_aload_n gd_Reader_takeWord_54 0 rfl (by decide) ?_
      refine gf_5_3 gd_Reader_takeWord_55 gh_k223 hF ?_
      refine gf_3_2 gd_Reader_takeWord_58 gh_k164 hF rfl ?_
      refine gh_iconst gd_Reader_takeWord_61 (gh_r0 rfl) ?_
      obtain ⟨hA, hB⟩ := h
      refine gh_jne (tgt := 79) gd_Reader_takeWord_62 (by decide) (fun c599 => ?_) (fun c599 => ?_)
      · have h := hA c599
        refine gh_aload_n gd_Reader_takeWord_65 0 rfl (by decide) ?_
        refine gh_aload_n gd_Reader_takeWord_66 0 rfl (by decide) ?_
        refine gf_5_3 gd_Reader_takeWord_67 gh_k223 hF ?_
        refine cv_Tape_setOfClass (d := d + 1) gd_Reader_takeWord_70 gh_k779 hF (Nat.le_of_ble_eq_true rfl) (gh_C.pw (s_Tape_setOfClass d hF h) (fun r600 h => ?_))
        refine cv_Reader_push (d := d + 1) gd_Reader_takeWord_73 gh_k775 hF (Nat.le_of_ble_eq_true rfl) (gh_C.mono (s_Reader_push (d + 1) r600 hF h) (fun r602 m603 hq => ?_))
        obtain ⟨hF, h⟩ := hq
        refine gh_goto (tgt := 110) gd_Reader_takeWord_76 (by decide) ?_
        exact hJ110 m603 hF h
      · have h := hB c599
        refine gh_iconst gd_Reader_takeWord_79 (gh_r0 rfl) ?_
        refine gh_istore_n (L2 := [(1, 0, 0), (0, 2, 5)]) gd_Reader_takeWord_80 (by decide) rfl ?_
        refine gh_pick (L2 := [(0, 2, 5), (1, 0, 0)]) [1, 0] rfl ?_
        exact gh_M1_sound (T := fun v1 m => gh_T E (gh_yReader_takeWord.cls, prog_9_method_8_code, 2, false, 9) (d + 2) 81 [(0, 2, 5), (1, 0, v1)] [] m (fun r m1 => gh_F m1 ∧ Q r m1)) (fun _ m => gh_F m) (fun K81 v1 m hK hF h => b_Reader_takeWord_81 d hJ110 hK v1 m hF h) 0 m hF h
def w_Reader_startRow (m : gh_M) (Q : Int → gh_M → Prop) : Prop := 0 ≤ m 5 5 ∧ (m 5 5) < 4 ∧ Q 0 (gh_u (gh_u m 11 (m 5 5) 0) 5 6 0)
theorem s_Reader_startRow {E : gh_E} {m : gh_M} {Q : Int → gh_M → Prop} (d : Nat) (hF : gh_F m) (h : w_Reader_startRow m Q) : gh_C E gh_yReader_startRow prog_9_method_9_code 1 none 9 (d + 0) [(2, 5)] m (fun r m1 => gh_F m1 ∧ Q r m1) := by
  refine gh_enter2 (L := [(0, 2, 5)]) (by decide +kernel) gh_rt9 (Nat.le_of_ble_eq_true rfl) rfl rfl ?_
  unfold w_Reader_startRow at h
  refine gh_aload_n gd_Reader_startRow_0 0 rfl (by decide) ?_
  refine gf_5_7 gd_Reader_startRow_1 gh_k227 hF ?_
  refine gh_aload_n gd_Reader_startRow_4 0 rfl (by decide) ?_
  refine gf_5_5 gd_Reader_startRow_5 gh_k225 hF rfl ?_
  refine gh_iconst gd_Reader_startRow_8 (gh_r0 rfl) ?_
  obtain ⟨q610, h⟩ := h
  obtain ⟨q611, h⟩ := h
  refine sa_11 gd_Reader_startRow_9 hF q610 q611 (fun hF => ?_)
  refine gh_aload_n gd_Reader_startRow_10 0 rfl (by decide) ?_
  refine gh_iconst gd_Reader_startRow_11 (gh_r0 rfl) ?_
  refine pf_5_6 gd_Reader_startRow_12 gh_k226 hF (fun hF => ?_)
  exact gh_ret9 rfl gd_Reader_startRow_15 ⟨hF, h⟩
def f_Draft_add_12_70 (v1 : Int) (v4 : Int) (v5 : Int) (v6 : Int) (v7 : Int) (Q : Int → gh_M → Prop) (K70 : Int → gh_M → Prop) (v8 : Int) (m : gh_M) : Prop := ((v8 < v5 → gh_i (v7 + v6) ∧ gh_i ((v7 + v6) + v8) ∧ gh_i (v4 + v8) ∧ 0 ≤ v4 + v8 ∧ (v4 + v8) < 16 ∧ 0 ≤ (v7 + v6) + v8 ∧ ((v7 + v6) + v8) < 80 ∧ gh_i (v8 + 1) ∧ K70 (v8 + 1) (gh_u m 10 ((v7 + v6) + v8) (m 12 (v4 + v8)))) ∧ (¬ (v8 < v5) → 0 ≤ m 6 3 ∧ (m 6 3) < 20 ∧ gh_i (v6 + v5) ∧ 0 ≤ m 6 3 ∧ (m 6 3) < 20 ∧ gh_i ((m 6 3) + 1) ∧ Q 0 (gh_u (gh_u (gh_u m 8 (m 6 3) v1) 9 (m 6 3) (v6 + v5)) 6 3 ((m 6 3) + 1))))
def w_Draft_add_12 (v1 : Int) (v2 : Int) (v4 : Int) (v5 : Int) (m : gh_M) (Q : Int → gh_M → Prop) : Prop := ∀ v6 : Int, v6 = (if (¬ (v2 = 0)) then (1:Int) else 0) → ((((m 6 3) < 20) → (gh_i (v6 + v5) ∧ (((v6 + v5) ≤ 4) → ((¬ (v4 < 0) → (gh_i (v4 + v5)))))))) ∧ (((((m 6 3) < 20) ∧ (((v6 + v5) ≤ 4) ∧ (¬ (v4 < 0) ∧ ((v4 + v5) ≤ 16)))) → gh_i ((m 6 3) * 4) ∧ ∀ v7 : Int, v7 = (m 6 3) * 4 → ∃ J67 : gh_M → Prop, (∀ (m : gh_M), J67 m → gh_M1 (fun K70 v8 m => f_Draft_add_12_70 v1 v4 v5 v6 v7 Q K70 v8 m) 0 m) ∧ ((v6 = 1 → 0 ≤ v7 ∧ v7 < 80 ∧ J67 (gh_u m 10 v7 v2)) ∧ (¬ (v6 = 1) → J67 m))) ∧ (¬ (((m 6 3) < 20) ∧ (((v6 + v5) ≤ 4) ∧ (¬ (v4 < 0) ∧ ((v4 + v5) ≤ 16)))) → Q 0 m))
theorem b_Draft_add_12_70 {E : gh_E} {v1 : Int} {v4 : Int} {v5 : Int} {v6 : Int} {v7 : Int} {Q : Int → gh_M → Prop} {K70 : Int → gh_M → Prop} (d : Nat) (hK : ∀ (v8 : Int) (m : gh_M), gh_F m → K70 v8 m → gh_T E (gh_yDraft_add.cls, prog_3_method_9_code, 9, false, 9) (d + 0) 70 [(0, 2, 6), (1, 0, v1), (3, 2, 12), (4, 0, v4), (5, 0, v5), (6, 0, v6), (7, 0, v7), (8, 0, v8)] [] m (fun r m1 => gh_F m1 ∧ Q r m1)) (v8 : Int) (m : gh_M) (hF : gh_F m) (h : f_Draft_add_12_70 v1 v4 v5 v6 v7 Q K70 v8 m) : gh_T E (gh_yDraft_add.cls, prog_3_method_9_code, 9, false, 9) (d + 0) 70 [(0, 2, 6), (1, 0, v1), (3, 2, 12), (4, 0, v4), (5, 0, v5), (6, 0, v6), (7, 0, v7), (8, 0, v8)] [] m (fun r m1 => gh_F m1 ∧ Q r m1) := by
  have hK70 := hK
  unfold f_Draft_add_12_70 at h
  refine gh_iload gd_Draft_add_70 7 rfl ?_
  refine gh_iload gd_Draft_add_72 4 rfl ?_
  obtain ⟨hA, hB⟩ := h
  refine gh_jge (tgt := 103) gd_Draft_add_74 (by decide) (fun c630 => ?_) (fun c630 => ?_)
  · have h := hA c630
    refine gh_aload_n gd_Draft_add_77 0 rfl (by decide) ?_
    refine gf_6_6 gd_Draft_add_78 gh_k201 hF ?_
    refine gh_iload gd_Draft_add_81 6 rfl ?_
    refine gh_iload gd_Draft_add_83 5 rfl ?_
    obtain ⟨q631, h⟩ := h
    refine gh_iadd gd_Draft_add_85 q631 ?_
    refine gh_iload gd_Draft_add_86 7 rfl ?_
    obtain ⟨q632, h⟩ := h
    refine gh_iadd gd_Draft_add_88 q632 ?_
    refine gh_aload_n gd_Draft_add_89 2 rfl (by decide) ?_
    refine gh_iload gd_Draft_add_90 3 rfl ?_
    refine gh_iload gd_Draft_add_92 7 rfl ?_
    obtain ⟨q633, h⟩ := h
    refine gh_iadd gd_Draft_add_94 q633 ?_
    obtain ⟨q634, h⟩ := h
    obtain ⟨q635, h⟩ := h
    refine la_12 gd_Draft_add_95 hF q634 q635 rfl ?_
    obtain ⟨q636, h⟩ := h
    obtain ⟨q637, h⟩ := h
    refine sa_10 gd_Draft_add_96 hF q636 q637 (fun hF => ?_)
    obtain ⟨q638, h⟩ := h
    refine gh_iinc (L2 := [(8, 0, v8 + 1), (0, 2, 6), (1, 0, v1), (3, 2, 12), (4, 0, v4), (5, 0, v5), (6, 0, v6), (7, 0, v7)]) gd_Draft_add_97 7 rfl q638 (by decide) rfl ?_
    refine gh_goto (tgt := 70) gd_Draft_add_100 (by decide) ?_
    refine gh_pick (L2 := [(0, 2, 6), (1, 0, v1), (3, 2, 12), (4, 0, v4), (5, 0, v5), (6, 0, v6), (7, 0, v7), (8, 0, v8 + 1)]) [1, 2, 3, 4, 5, 6, 7, 0] rfl ?_
    exact hK70 (v8 + 1) (gh_u m 10 ((v7 + v6) + v8) (m 12 (v4 + v8))) hF h
  · have h := hB c630
    refine gh_aload_n gd_Draft_add_103 0 rfl (by decide) ?_
    refine gf_6_4 gd_Draft_add_104 gh_k199 hF ?_
    refine gh_aload_n gd_Draft_add_107 0 rfl (by decide) ?_
    refine gf_6_3 gd_Draft_add_108 gh_k197 hF rfl ?_
    refine gh_iload_n gd_Draft_add_111 1 rfl ?_
    obtain ⟨q639, h⟩ := h
    obtain ⟨q640, h⟩ := h
    refine sa_8 gd_Draft_add_112 hF q639 q640 (fun hF => ?_)
    refine gh_aload_n gd_Draft_add_113 0 rfl (by decide) ?_
    refine gf_6_5 gd_Draft_add_114 gh_k200 hF ?_
    refine gh_aload_n gd_Draft_add_117 0 rfl (by decide) ?_
    refine gf_6_3 gd_Draft_add_118 gh_k197 hF (gh_u_a (by decide)) ?_
    refine gh_iload gd_Draft_add_121 5 rfl ?_
    refine gh_iload gd_Draft_add_123 4 rfl ?_
    obtain ⟨q641, h⟩ := h
    refine gh_iadd gd_Draft_add_125 q641 ?_
    obtain ⟨q642, h⟩ := h
    obtain ⟨q643, h⟩ := h
    refine sa_9 gd_Draft_add_126 hF q642 q643 (fun hF => ?_)
    refine gh_aload_n gd_Draft_add_127 0 rfl (by decide) ?_
    refine gh_dup gd_Draft_add_128 (by decide) ?_
    refine gf_6_3 gd_Draft_add_129 gh_k197 hF ((gh_u_a (by decide)).trans (gh_u_a (by decide))) ?_
    refine gh_iconst gd_Draft_add_132 (gh_r0 rfl) ?_
    obtain ⟨q644, h⟩ := h
    refine gh_iadd gd_Draft_add_133 q644 ?_
    refine pf_6_3 gd_Draft_add_134 gh_k197 hF (fun hF => ?_)
    exact gh_ret9 rfl gd_Draft_add_137 ⟨hF, h⟩
theorem s_Draft_add_12 {E : gh_E} {m : gh_M} {Q : Int → gh_M → Prop} (d : Nat) (v1 : Int) (v2 : Int) (v4 : Int) (v5 : Int) (hF : gh_F m) (h : w_Draft_add_12 v1 v2 v4 v5 m Q) : gh_C E gh_yDraft_add prog_3_method_9_code 9 none 9 (d + 0) [(2, 6), (0, v1), (0, v2), (2, 12), (0, v4), (0, v5)] m (fun r m1 => gh_F m1 ∧ Q r m1) := by
  refine gh_enter2 (L := [(0, 2, 6), (1, 0, v1), (2, 0, v2), (3, 2, 12), (4, 0, v4), (5, 0, v5)]) (by decide +kernel) gh_rt9 (Nat.le_of_ble_eq_true rfl) rfl rfl ?_
  unfold w_Draft_add_12 at h
  refine gh_iload_n gd_Draft_add_0 2 rfl ?_
  have k623 : ∀ x624 : Int, x624 = (if (¬ (v2 = 0)) then (1:Int) else 0) → gh_T E (gh_yDraft_add.cls, prog_3_method_9_code, 9, false, 9) (d + 0) 9 [(0, 2, 6), (1, 0, v1), (2, 0, v2), (3, 2, 12), (4, 0, v4), (5, 0, v5)] [(0, x624)] m (fun r m1 => gh_F m1 ∧ Q r m1) := by
    rintro _ rfl
    refine gh_name (fun v6 hn => ?_)
    have h := h v6 hn
    refine gh_istore (L2 := [(6, 0, v6), (0, 2, 6), (1, 0, v1), (2, 0, v2), (3, 2, 12), (4, 0, v4), (5, 0, v5)]) gd_Draft_add_9 (by decide) rfl ?_
    refine gh_aload_n gd_Draft_add_11 1 rfl (by decide) ?_
    refine gf_6_3 gd_Draft_add_12 gh_k197 hF rfl ?_
    refine gh_bipush gd_Draft_add_15 (by decide) (gh_r0 rfl) ?_
    obtain ⟨hk, hA, hB⟩ := h
    have k627 : (((m 6 3) < 20) ∧ (((v6 + v5) ≤ 4) ∧ (¬ (v4 < 0) ∧ ((v4 + v5) ≤ 16)))) → gh_T E (gh_yDraft_add.cls, prog_3_method_9_code, 9, false, 9) (d + 0) 45 [(6, 0, v6), (0, 2, 6), (1, 0, v1), (2, 0, v2), (3, 2, 12), (4, 0, v4), (5, 0, v5)] [] m (fun r m1 => gh_F m1 ∧ Q r m1) := by
      intro c
      have h := hA c
      refine gh_aload_n gd_Draft_add_45 1 rfl (by decide) ?_
      refine gf_6_3 gd_Draft_add_46 gh_k197 hF rfl ?_
      refine gh_iconst gd_Draft_add_49 (gh_r0 rfl) ?_
      obtain ⟨q629, h⟩ := h
      refine gh_imul gd_Draft_add_50 q629 ?_
      refine gh_name (fun v7 hn => ?_)
      have h := h v7 hn
      refine gh_istore (L2 := [(7, 0, v7), (6, 0, v6), (0, 2, 6), (1, 0, v1), (2, 0, v2), (3, 2, 12), (4, 0, v4), (5, 0, v5)]) gd_Draft_add_51 (by decide) rfl ?_
      refine gh_iload gd_Draft_add_53 1 rfl ?_
      refine gh_iconst gd_Draft_add_55 (gh_r0 rfl) ?_
      obtain ⟨J67, hJ67, h⟩ := h
      have hJ67 : ∀ (m : gh_M), gh_F m → J67 m → gh_T E (gh_yDraft_add.cls, prog_3_method_9_code, 9, false, 9) (d + 0) 67 [(0, 2, 6), (1, 0, v1), (3, 2, 12), (4, 0, v4), (5, 0, v5), (6, 0, v6), (7, 0, v7)] [] m (fun r m1 => gh_F m1 ∧ Q r m1) := by
        intro m hF hj
        have h := hJ67 m hj
        refine gh_iconst gd_Draft_add_67 (gh_r0 rfl) ?_
        refine gh_istore (L2 := [(8, 0, 0), (0, 2, 6), (1, 0, v1), (3, 2, 12), (4, 0, v4), (5, 0, v5), (6, 0, v6), (7, 0, v7)]) gd_Draft_add_68 (by decide) rfl ?_
        refine gh_pick (L2 := [(0, 2, 6), (1, 0, v1), (3, 2, 12), (4, 0, v4), (5, 0, v5), (6, 0, v6), (7, 0, v7), (8, 0, 0)]) [1, 2, 3, 4, 5, 6, 7, 0] rfl ?_
        exact gh_M1_sound (T := fun v8 m => gh_T E (gh_yDraft_add.cls, prog_3_method_9_code, 9, false, 9) (d + 0) 70 [(0, 2, 6), (1, 0, v1), (3, 2, 12), (4, 0, v4), (5, 0, v5), (6, 0, v6), (7, 0, v7), (8, 0, v8)] [] m (fun r m1 => gh_F m1 ∧ Q r m1)) (fun _ m => gh_F m) (fun K70 v8 m hK hF h => b_Draft_add_12_70 d hK v8 m hF h) 0 m hF h
      obtain ⟨hA, hB⟩ := h
      refine gh_jne (tgt := 67) gd_Draft_add_56 (by decide) (fun c645 => ?_) (fun c645 => ?_)
      · have h := hA c645
        refine gh_aload_n gd_Draft_add_59 2 rfl (by decide) ?_
        refine gf_6_6 gd_Draft_add_60 gh_k201 hF ?_
        refine gh_iload gd_Draft_add_63 0 rfl ?_
        refine gh_iload_n gd_Draft_add_65 4 rfl ?_
        obtain ⟨q646, h⟩ := h
        obtain ⟨q647, h⟩ := h
        refine sa_10 gd_Draft_add_66 hF q646 q647 (fun hF => ?_)
        refine gh_pick (L2 := [(0, 2, 6), (1, 0, v1), (3, 2, 12), (4, 0, v4), (5, 0, v5), (6, 0, v6), (7, 0, v7)]) [2, 3, 5, 6, 7, 1, 0] rfl ?_
        exact hJ67 (gh_u m 10 v7 v2) hF h
      · have h := hB c645
        refine gh_pick (L2 := [(0, 2, 6), (1, 0, v1), (3, 2, 12), (4, 0, v4), (5, 0, v5), (6, 0, v6), (7, 0, v7)]) [2, 3, 5, 6, 7, 1, 0] rfl ?_
        exact hJ67 m hF h
    have k628 : ¬ (((m 6 3) < 20) ∧ (((v6 + v5) ≤ 4) ∧ (¬ (v4 < 0) ∧ ((v4 + v5) ≤ 16)))) → gh_T E (gh_yDraft_add.cls, prog_3_method_9_code, 9, false, 9) (d + 0) 44 [(6, 0, v6), (0, 2, 6), (1, 0, v1), (2, 0, v2), (3, 2, 12), (4, 0, v4), (5, 0, v5)] [] m (fun r m1 => gh_F m1 ∧ Q r m1) := by
      intro c
      have h := hB c
      exact gh_ret9 rfl gd_Draft_add_44 ⟨hF, h⟩
    refine gh_jge (tgt := 44) gd_Draft_add_17 (by decide) (fun c648 => ?_) (fun c648 => ?_)
    · have hz : True := trivial
      have hk := hk c648
      refine gh_iload gd_Draft_add_20 0 rfl ?_
      refine gh_iload gd_Draft_add_22 6 rfl ?_
      obtain ⟨q625, hk⟩ := hk
      refine gh_iadd gd_Draft_add_24 q625 ?_
      refine gh_iconst gd_Draft_add_25 (gh_r0 rfl) ?_
      refine gh_jgt (tgt := 44) gd_Draft_add_26 (by decide) (fun c649 => ?_) (fun c649 => ?_)
      · have hz : True := trivial
        have hk := hk c649
        refine gh_iload gd_Draft_add_29 5 rfl ?_
        refine gh_zlt (tgt := 44) gd_Draft_add_31 (by decide) (fun c650 => ?_) (fun c650 => ?_)
        · have hz : True := trivial
          exact k628 (fun z => (fun z => (fun z => z.1 c650) z.2) z.2)
        · have hz : True := trivial
          have hk := hk c650
          refine gh_iload gd_Draft_add_34 5 rfl ?_
          refine gh_iload gd_Draft_add_36 6 rfl ?_
          have q626 := hk
          refine gh_iadd gd_Draft_add_38 q626 ?_
          refine gh_aload_n gd_Draft_add_39 4 rfl (by decide) ?_
          refine ll_12 gd_Draft_add_40 hF ?_
          refine gh_jle (tgt := 45) gd_Draft_add_41 (by decide) (fun c651 => ?_) (fun c651 => ?_)
          · have hz : True := trivial
            exact k627 ⟨c648, ⟨c649, ⟨c650, c651⟩⟩⟩
          · have hz : True := trivial
            exact k628 (fun z => (fun z => (fun z => c651 z.2) z.2) z.2)
      · have hz : True := trivial
        exact k628 (fun z => (fun z => c649 z.1) z.2)
    · have hz : True := trivial
      exact k628 (fun z => c648 z.1)
  refine gh_zne (tgt := 8) gd_Draft_add_1 (by decide) (fun c652 => ?_) (fun c652 => ?_)
  · have hz : True := trivial
    refine gh_iconst gd_Draft_add_4 (gh_r0 rfl) ?_
    refine gh_goto (tgt := 9) gd_Draft_add_5 (by decide) ?_
    exact k623 _ (if_neg (c := (¬ (v2 = 0))) (not_not_intro c652)).symm
  · have hz : True := trivial
    refine gh_iconst gd_Draft_add_8 (gh_r0 rfl) ?_
    exact k623 _ (if_pos (c := (¬ (v2 = 0))) c652).symm
def w_Draft_addRow_12 (v1 : Int) (v3 : Int) (v4 : Int) (m : gh_M) (Q : Int → gh_M → Prop) : Prop := (((v1 = 0) → (gh_i ((m 6 1) - 1))) ∧ (¬ (v1 = 0) → (gh_i (16 + v1)))) ∧ w_Draft_add_12 (if v1 = 0 then ((m 6 1) - 1) else (16 + v1)) 0 v3 v4 m (fun _ m622 => Q 0 m622)
theorem s_Draft_addRow_12 {E : gh_E} {m : gh_M} {Q : Int → gh_M → Prop} (d : Nat) (v1 : Int) (v3 : Int) (v4 : Int) (hF : gh_F m) (h : w_Draft_addRow_12 v1 v3 v4 m Q) : gh_C E gh_yDraft_addRow prog_3_method_7_code 5 none 9 (d + 1) [(2, 6), (0, v1), (2, 12), (0, v3), (0, v4)] m (fun r m1 => gh_F m1 ∧ Q r m1) := by
  refine gh_enter2 (L := [(0, 2, 6), (1, 0, v1), (2, 2, 12), (3, 0, v3), (4, 0, v4)]) (by decide +kernel) gh_rt9 (Nat.le_of_ble_eq_true rfl) rfl rfl ?_
  unfold w_Draft_addRow_12 at h
  refine gh_aload_n gd_Draft_addRow_0 0 rfl (by decide) ?_
  refine gh_iload_n gd_Draft_addRow_1 1 rfl ?_
  obtain ⟨hk, h⟩ := h
  have k619 : ∀ x620 : Int, x620 = (if v1 = 0 then ((m 6 1) - 1) else (16 + v1)) → gh_T E (gh_yDraft_addRow.cls, prog_3_method_7_code, 5, false, 9) (d + 1) 18 [(0, 2, 6), (1, 0, v1), (2, 2, 12), (3, 0, v3), (4, 0, v4)] [(0, x620), (2, 6)] m (fun r m1 => gh_F m1 ∧ Q r m1) := by
    rintro _ rfl
    refine gh_iconst gd_Draft_addRow_18 (gh_r0 rfl) ?_
    refine gh_aload_n gd_Draft_addRow_19 2 rfl (by decide) ?_
    refine gh_iload_n gd_Draft_addRow_20 3 rfl ?_
    refine gh_iload gd_Draft_addRow_21 4 rfl ?_
    refine cv_Draft_add (d := d) gd_Draft_addRow_23 gh_k802 hF (Nat.le_of_ble_eq_true rfl) (gh_C.mono (s_Draft_add_12 d (if v1 = 0 then ((m 6 1) - 1) else (16 + v1)) 0 v3 v4 hF h) (fun r621 m622 hq => ?_))
    obtain ⟨hF, h⟩ := hq
    exact gh_ret9 rfl gd_Draft_addRow_26 ⟨hF, h⟩
  refine gh_zne (tgt := 14) gd_Draft_addRow_2 (by decide) (fun c653 => ?_) (fun c653 => ?_)
  · have hz : True := trivial
    have hk := hk.1 c653
    refine gh_aload_n gd_Draft_addRow_5 0 rfl (by decide) ?_
    refine gf_6_1 gd_Draft_addRow_6 gh_k194 hF rfl ?_
    refine gh_iconst gd_Draft_addRow_9 (gh_r0 rfl) ?_
    have q617 := hk
    refine gh_isub gd_Draft_addRow_10 q617 ?_
    refine gh_goto (tgt := 18) gd_Draft_addRow_11 (by decide) ?_
    exact k619 _ (by rw [if_pos c653])
  · have hz : True := trivial
    have hk := hk.2 c653
    refine gh_bipush gd_Draft_addRow_14 (by decide) (gh_r0 rfl) ?_
    refine gh_iload_n gd_Draft_addRow_16 1 rfl ?_
    have q618 := hk
    refine gh_iadd gd_Draft_addRow_17 q618 ?_
    exact k619 _ (by rw [if_neg c653])
def w_Reader_endRow (m : gh_M) (Q : Int → gh_M → Prop) : Prop := gh_i ((m 5 5) * 4) ∧ 0 ≤ m 5 5 ∧ (m 5 5) < 4 ∧ w_Draft_addRow_12 (m 5 5) ((m 5 5) * 4) (m 11 (m 5 5)) m (fun _ m616 => w_Reader_startRow m616 (fun _ m655 => Q 0 m655))
theorem s_Reader_endRow {E : gh_E} {m : gh_M} {Q : Int → gh_M → Prop} (d : Nat) (hF : gh_F m) (h : w_Reader_endRow m Q) : gh_C E gh_yReader_endRow prog_9_method_11_code 1 none 9 (d + 2) [(2, 5)] m (fun r m1 => gh_F m1 ∧ Q r m1) := by
  refine gh_enter2 (L := [(0, 2, 5)]) (by decide +kernel) gh_rt9 (Nat.le_of_ble_eq_true rfl) rfl rfl ?_
  unfold w_Reader_endRow at h
  refine gh_aload_n gd_Reader_endRow_0 0 rfl (by decide) ?_
  refine gf_5_0 gd_Reader_endRow_1 gh_k217 hF ?_
  refine gh_aload_n gd_Reader_endRow_4 0 rfl (by decide) ?_
  refine gf_5_5 gd_Reader_endRow_5 gh_k225 hF rfl ?_
  refine gh_aload_n gd_Reader_endRow_8 0 rfl (by decide) ?_
  refine gf_5_8 gd_Reader_endRow_9 gh_k228 hF ?_
  refine gh_aload_n gd_Reader_endRow_12 0 rfl (by decide) ?_
  refine gf_5_5 gd_Reader_endRow_13 gh_k225 hF rfl ?_
  refine gh_iconst gd_Reader_endRow_16 (gh_r0 rfl) ?_
  obtain ⟨q612, h⟩ := h
  refine gh_imul gd_Reader_endRow_17 q612 ?_
  refine gh_aload_n gd_Reader_endRow_18 0 rfl (by decide) ?_
  refine gf_5_7 gd_Reader_endRow_19 gh_k227 hF ?_
  refine gh_aload_n gd_Reader_endRow_22 0 rfl (by decide) ?_
  refine gf_5_5 gd_Reader_endRow_23 gh_k225 hF rfl ?_
  obtain ⟨q613, h⟩ := h
  obtain ⟨q614, h⟩ := h
  refine la_11 gd_Reader_endRow_26 hF q613 q614 rfl ?_
  refine cv_Draft_addRow (d := d + 1) gd_Reader_endRow_27 gh_k798 hF (Nat.le_of_ble_eq_true rfl) (gh_C.mono (s_Draft_addRow_12 d (m 5 5) ((m 5 5) * 4) (m 11 (m 5 5)) hF h) (fun r615 m616 hq => ?_))
  obtain ⟨hF, h⟩ := hq
  refine gh_aload_n gd_Reader_endRow_30 0 rfl (by decide) ?_
  refine cv_Reader_startRow (d := d + 1) gd_Reader_endRow_31 gh_k787 hF (Nat.le_of_ble_eq_true rfl) (gh_C.mono (s_Reader_startRow (d + 1) hF h) (fun r654 m655 hq => ?_))
  obtain ⟨hF, h⟩ := hq
  exact gh_ret9 rfl gd_Reader_endRow_34 ⟨hF, h⟩
def w_Draft_makeName (m : gh_M) (Q : Int → gh_M → Prop) : Prop := gh_i ((m 6 2) + 1) ∧ gh_i ((((m 6 2) + 1)) - 1) ∧ Q ((((m 6 2) + 1)) - 1) (gh_u m 6 2 ((m 6 2) + 1))
theorem s_Draft_makeName {E : gh_E} {m : gh_M} {Q : Int → gh_M → Prop} (d : Nat) (hF : gh_F m) (h : w_Draft_makeName m Q) : gh_C E gh_yDraft_makeName prog_3_method_6_code 1 (some .int) 0 (d + 0) [(2, 6)] m (fun r m1 => gh_F m1 ∧ Q r m1) := by
  refine gh_enter2 (L := [(0, 2, 6)]) (by decide +kernel) gh_rt0 (Nat.le_of_ble_eq_true rfl) rfl rfl ?_
  unfold w_Draft_makeName at h
  refine gh_aload_n gd_Draft_makeName_0 0 rfl (by decide) ?_
  refine gh_dup gd_Draft_makeName_1 (by decide) ?_
  refine gf_6_2 gd_Draft_makeName_2 gh_k196 hF rfl ?_
  refine gh_iconst gd_Draft_makeName_5 (gh_r0 rfl) ?_
  obtain ⟨q656, h⟩ := h
  refine gh_iadd gd_Draft_makeName_6 q656 ?_
  refine pf_6_2 gd_Draft_makeName_7 gh_k196 hF (fun hF => ?_)
  refine gh_aload_n gd_Draft_makeName_10 0 rfl (by decide) ?_
  refine gf_6_2 gd_Draft_makeName_11 gh_k196 hF (gh_u_s _ _ _ _) ?_
  refine gh_iconst gd_Draft_makeName_14 (gh_r0 rfl) ?_
  obtain ⟨q657, h⟩ := h
  refine gh_isub gd_Draft_makeName_15 q657 ?_
  exact gh_ret0 rfl gd_Draft_makeName_16 ⟨hF, h⟩
def f_Draft_close_7 (v1 : Int) (r658 : Int) (Q : Int → gh_M → Prop) (K7 : Int → gh_M → Prop) (v3 : Int) (m : gh_M) : Prop := ((((v3 < (m 6 3)) ∧ (v3 < 20)) → 0 ≤ v3 ∧ v3 < 20 ∧ gh_i (16 + v1) ∧ ∃ J44 : gh_M → Prop, (∀ (m : gh_M), J44 m → gh_i (v3 + 1) ∧ K7 (v3 + 1) m) ∧ (((m 8 v3) = (16 + v1) → gh_i (8 + r658) ∧ 0 ≤ v3 ∧ v3 < 20 ∧ J44 (gh_u m 8 v3 (8 + r658))) ∧ (¬ ((m 8 v3) = (16 + v1)) → J44 m))) ∧ (¬ ((v3 < (m 6 3)) ∧ (v3 < 20)) → Q r658 m))
def w_Draft_close (v1 : Int) (m : gh_M) (Q : Int → gh_M → Prop) : Prop := w_Draft_makeName m (fun r658 m659 => gh_M1 (fun K7 v3 m => f_Draft_close_7 v1 r658 Q K7 v3 m) 0 m659)
theorem b_Draft_close_7 {E : gh_E} {v1 : Int} {r658 : Int} {Q : Int → gh_M → Prop} {K7 : Int → gh_M → Prop} (d : Nat) (hK : ∀ (v3 : Int) (m : gh_M), gh_F m → K7 v3 m → gh_T E (gh_yDraft_close.cls, prog_3_method_10_code, 4, false, 0) (d + 1) 7 [(0, 2, 6), (1, 0, v1), (2, 0, r658), (3, 0, v3)] [] m (fun r m1 => gh_F m1 ∧ Q r m1)) (v3 : Int) (m : gh_M) (hF : gh_F m) (h : f_Draft_close_7 v1 r658 Q K7 v3 m) : gh_T E (gh_yDraft_close.cls, prog_3_method_10_code, 4, false, 0) (d + 1) 7 [(0, 2, 6), (1, 0, v1), (2, 0, r658), (3, 0, v3)] [] m (fun r m1 => gh_F m1 ∧ Q r m1) := by
  have hK7 := hK
  unfold f_Draft_close_7 at h
  refine gh_iload_n gd_Draft_close_7 3 rfl ?_
  refine gh_aload_n gd_Draft_close_8 0 rfl (by decide) ?_
  refine gf_6_3 gd_Draft_close_9 gh_k197 hF rfl ?_
  obtain ⟨hA, hB⟩ := h
  have k660 : ((v3 < (m 6 3)) ∧ (v3 < 20)) → gh_T E (gh_yDraft_close.cls, prog_3_method_10_code, 4, false, 0) (d + 1) 21 [(0, 2, 6), (1, 0, v1), (2, 0, r658), (3, 0, v3)] [] m (fun r m1 => gh_F m1 ∧ Q r m1) := by
    intro c
    have h := hA c
    refine gh_aload_n gd_Draft_close_21 0 rfl (by decide) ?_
    refine gf_6_4 gd_Draft_close_22 gh_k199 hF ?_
    refine gh_iload_n gd_Draft_close_25 3 rfl ?_
    obtain ⟨q662, h⟩ := h
    obtain ⟨q663, h⟩ := h
    refine la_8 gd_Draft_close_26 hF q662 q663 rfl ?_
    refine gh_bipush gd_Draft_close_27 (by decide) (gh_r0 rfl) ?_
    refine gh_iload_n gd_Draft_close_29 1 rfl ?_
    obtain ⟨q664, h⟩ := h
    refine gh_iadd gd_Draft_close_30 q664 ?_
    obtain ⟨J44, hJ44, h⟩ := h
    have hJ44 : ∀ (m : gh_M), gh_F m → J44 m → gh_T E (gh_yDraft_close.cls, prog_3_method_10_code, 4, false, 0) (d + 1) 44 [(0, 2, 6), (1, 0, v1), (2, 0, r658), (3, 0, v3)] [] m (fun r m1 => gh_F m1 ∧ Q r m1) := by
      intro m hF hj
      have h := hJ44 m hj
      obtain ⟨q665, h⟩ := h
      refine gh_iinc (L2 := [(3, 0, v3 + 1), (0, 2, 6), (1, 0, v1), (2, 0, r658)]) gd_Draft_close_44 3 rfl q665 (by decide) rfl ?_
      refine gh_goto (tgt := 7) gd_Draft_close_47 (by decide) ?_
      refine gh_pick (L2 := [(0, 2, 6), (1, 0, v1), (2, 0, r658), (3, 0, v3 + 1)]) [1, 2, 3, 0] rfl ?_
      exact hK7 (v3 + 1) m hF h
    obtain ⟨hA, hB⟩ := h
    refine gh_jne (tgt := 44) gd_Draft_close_31 (by decide) (fun c666 => ?_) (fun c666 => ?_)
    · have h := hA c666
      refine gh_aload_n gd_Draft_close_34 0 rfl (by decide) ?_
      refine gf_6_4 gd_Draft_close_35 gh_k199 hF ?_
      refine gh_iload_n gd_Draft_close_38 3 rfl ?_
      refine gh_bipush gd_Draft_close_39 (by decide) (gh_r0 rfl) ?_
      refine gh_iload_n gd_Draft_close_41 2 rfl ?_
      obtain ⟨q667, h⟩ := h
      refine gh_iadd gd_Draft_close_42 q667 ?_
      obtain ⟨q668, h⟩ := h
      obtain ⟨q669, h⟩ := h
      refine sa_8 gd_Draft_close_43 hF q668 q669 (fun hF => ?_)
      exact hJ44 (gh_u m 8 v3 (8 + r658)) hF h
    · have h := hB c666
      exact hJ44 m hF h
  have k661 : ¬ ((v3 < (m 6 3)) ∧ (v3 < 20)) → gh_T E (gh_yDraft_close.cls, prog_3_method_10_code, 4, false, 0) (d + 1) 50 [(0, 2, 6), (1, 0, v1), (2, 0, r658), (3, 0, v3)] [] m (fun r m1 => gh_F m1 ∧ Q r m1) := by
    intro c
    have h := hB c
    refine gh_iload_n gd_Draft_close_50 2 rfl ?_
    exact gh_ret0 rfl gd_Draft_close_51 ⟨hF, h⟩
  refine gh_jge (tgt := 50) gd_Draft_close_12 (by decide) (fun c670 => ?_) (fun c670 => ?_)
  · have hz : True := trivial
    refine gh_iload_n gd_Draft_close_15 3 rfl ?_
    refine gh_bipush gd_Draft_close_16 (by decide) (gh_r0 rfl) ?_
    refine gh_jge (tgt := 50) gd_Draft_close_18 (by decide) (fun c671 => ?_) (fun c671 => ?_)
    · have hz : True := trivial
      exact k660 ⟨c670, c671⟩
    · have hz : True := trivial
      exact k661 (fun z => c671 z.2)
  · have hz : True := trivial
    exact k661 (fun z => c670 z.1)
theorem s_Draft_close {E : gh_E} {m : gh_M} {Q : Int → gh_M → Prop} (d : Nat) (v1 : Int) (hF : gh_F m) (h : w_Draft_close v1 m Q) : gh_C E gh_yDraft_close prog_3_method_10_code 4 (some .int) 0 (d + 1) [(2, 6), (0, v1)] m (fun r m1 => gh_F m1 ∧ Q r m1) := by
  refine gh_enter2 (L := [(0, 2, 6), (1, 0, v1)]) (by decide +kernel) gh_rt0 (Nat.le_of_ble_eq_true rfl) rfl rfl ?_
  unfold w_Draft_close at h
  refine gh_aload_n gd_Draft_close_0 0 rfl (by decide) ?_
  refine cv_Draft_makeName (d := d) gd_Draft_close_1 gh_k810 hF (Nat.le_of_ble_eq_true rfl) (gh_C.mono (s_Draft_makeName d hF h) (fun r658 m659 hq => ?_))
  obtain ⟨hF, h⟩ := hq
  refine gh_istore_n (L2 := [(2, 0, r658), (0, 2, 6), (1, 0, v1)]) gd_Draft_close_4 (by decide) rfl ?_
  refine gh_iconst gd_Draft_close_5 (gh_r0 rfl) ?_
  refine gh_istore_n (L2 := [(3, 0, 0), (2, 0, r658), (0, 2, 6), (1, 0, v1)]) gd_Draft_close_6 (by decide) rfl ?_
  refine gh_pick (L2 := [(0, 2, 6), (1, 0, v1), (2, 0, r658), (3, 0, 0)]) [2, 3, 1, 0] rfl ?_
  exact gh_M1_sound (T := fun v3 m => gh_T E (gh_yDraft_close.cls, prog_3_method_10_code, 4, false, 0) (d + 1) 7 [(0, 2, 6), (1, 0, v1), (2, 0, r658), (3, 0, v3)] [] m (fun r m1 => gh_F m1 ∧ Q r m1)) (fun _ m => gh_F m) (fun K7 v3 m hK hF h => b_Draft_close_7 d hK v3 m hF h) 0 m659 hF h
def w_Draft_addMadeRow_12 (v1 : Int) (v2 : Int) (v4 : Int) (v5 : Int) (m : gh_M) (Q : Int → gh_M → Prop) : Prop := gh_i (8 + v1) ∧ ((¬ (v2 = 0) → (gh_i ((-1) - v1)))) ∧ w_Draft_add_12 (8 + v1) (if v2 = 0 then 0 else ((-1) - v1)) v4 v5 m (fun _ m688 => Q 0 m688)
theorem s_Draft_addMadeRow_12 {E : gh_E} {m : gh_M} {Q : Int → gh_M → Prop} (d : Nat) (v1 : Int) (v2 : Int) (v4 : Int) (v5 : Int) (hF : gh_F m) (h : w_Draft_addMadeRow_12 v1 v2 v4 v5 m Q) : gh_C E gh_yDraft_addMadeRow prog_3_method_8_code 6 none 9 (d + 1) [(2, 6), (0, v1), (0, v2), (2, 12), (0, v4), (0, v5)] m (fun r m1 => gh_F m1 ∧ Q r m1) := by
  refine gh_enter2 (L := [(0, 2, 6), (1, 0, v1), (2, 0, v2), (3, 2, 12), (4, 0, v4), (5, 0, v5)]) (by decide +kernel) gh_rt9 (Nat.le_of_ble_eq_true rfl) rfl rfl ?_
  unfold w_Draft_addMadeRow_12 at h
  refine gh_aload_n gd_Draft_addMadeRow_0 0 rfl (by decide) ?_
  refine gh_bipush gd_Draft_addMadeRow_1 (by decide) (gh_r0 rfl) ?_
  refine gh_iload_n gd_Draft_addMadeRow_3 1 rfl ?_
  obtain ⟨q683, h⟩ := h
  refine gh_iadd gd_Draft_addMadeRow_4 q683 ?_
  refine gh_iload_n gd_Draft_addMadeRow_5 2 rfl ?_
  obtain ⟨hk, h⟩ := h
  have k685 : ∀ x686 : Int, x686 = (if v2 = 0 then 0 else ((-1) - v1)) → gh_T E (gh_yDraft_addMadeRow.cls, prog_3_method_8_code, 6, false, 9) (d + 1) 16 [(0, 2, 6), (1, 0, v1), (2, 0, v2), (3, 2, 12), (4, 0, v4), (5, 0, v5)] [(0, x686), (0, 8 + v1), (2, 6)] m (fun r m1 => gh_F m1 ∧ Q r m1) := by
    rintro _ rfl
    refine gh_aload_n gd_Draft_addMadeRow_16 3 rfl (by decide) ?_
    refine gh_iload gd_Draft_addMadeRow_17 4 rfl ?_
    refine gh_iload gd_Draft_addMadeRow_19 5 rfl ?_
    refine cv_Draft_add (d := d) gd_Draft_addMadeRow_21 gh_k802 hF (Nat.le_of_ble_eq_true rfl) (gh_C.mono (s_Draft_add_12 d (8 + v1) (if v2 = 0 then 0 else ((-1) - v1)) v4 v5 hF h) (fun r687 m688 hq => ?_))
    obtain ⟨hF, h⟩ := hq
    exact gh_ret9 rfl gd_Draft_addMadeRow_24 ⟨hF, h⟩
  refine gh_zeq (tgt := 15) gd_Draft_addMadeRow_6 (by decide) (fun c689 => ?_) (fun c689 => ?_)
  · have hz : True := trivial
    refine gh_iconst gd_Draft_addMadeRow_15 (gh_r0 rfl) ?_
    exact k685 _ (by rw [if_pos c689])
  · have hz : True := trivial
    have hk := hk c689
    refine gh_iconst gd_Draft_addMadeRow_9 (gh_r0 rfl) ?_
    refine gh_iload_n gd_Draft_addMadeRow_10 1 rfl ?_
    have q684 := hk
    refine gh_isub gd_Draft_addMadeRow_11 q684 ?_
    refine gh_goto (tgt := 16) gd_Draft_addMadeRow_12 (by decide) ?_
    exact k685 _ (by rw [if_neg c689])
def w_Reader_repeat (v1 : Int) (m : gh_M) (Q : Int → gh_M → Prop) : Prop := w_Draft_makeName m (fun r672 m673 => gh_i ((m673 5 5) * 4) ∧ 0 ≤ m673 5 5 ∧ (m673 5 5) < 4 ∧ gh_i (((m673 5 5) * 4) + (m673 11 (m673 5 5))) ∧ gh_i ((((m673 5 5) * 4) + (m673 11 (m673 5 5))) - (m673 5 6)) ∧ ∀ v3 : Int, v3 = (((m673 5 5) * 4) + (m673 11 (m673 5 5))) - (m673 5 6) → w_Draft_addMadeRow_12 r672 0 v3 (if v1 = 42 then 0 else (m673 5 6)) m673 (fun _ m682 => w_Draft_addMadeRow_12 r672 (if (¬ (v1 = 63)) then (1:Int) else 0) v3 (if v1 = 63 then 0 else (m682 5 6)) m682 (fun _ m695 => 0 ≤ m695 5 5 ∧ (m695 5 5) < 4 ∧ gh_i ((m695 11 (m695 5 5)) - (m695 5 6)) ∧ 0 ≤ m695 5 5 ∧ (m695 5 5) < 4 ∧ gh_i ((-1) - r672) ∧ w_Reader_push ((-1) - r672) (gh_u m695 11 (m695 5 5) ((m695 11 (m695 5 5)) - (m695 5 6))) (fun _ m703 => Q 0 (gh_u m703 5 6 0)))))
theorem s_Reader_repeat {E : gh_E} {m : gh_M} {Q : Int → gh_M → Prop} (d : Nat) (v1 : Int) (hF : gh_F m) (h : w_Reader_repeat v1 m Q) : gh_C E gh_yReader_repeat prog_9_method_12_code 4 none 9 (d + 2) [(2, 5), (0, v1)] m (fun r m1 => gh_F m1 ∧ Q r m1) := by
  refine gh_enter2 (L := [(0, 2, 5), (1, 0, v1)]) (by decide +kernel) gh_rt9 (Nat.le_of_ble_eq_true rfl) rfl rfl ?_
  unfold w_Reader_repeat at h
  refine gh_aload_n gd_Reader_repeat_0 0 rfl (by decide) ?_
  refine gf_5_0 gd_Reader_repeat_1 gh_k217 hF ?_
  refine cv_Draft_makeName (d := d + 1) gd_Reader_repeat_4 gh_k821 hF (Nat.le_of_ble_eq_true rfl) (gh_C.mono (s_Draft_makeName (d + 1) hF h) (fun r672 m673 hq => ?_))
  obtain ⟨hF, h⟩ := hq
  refine gh_istore_n (L2 := [(2, 0, r672), (0, 2, 5), (1, 0, v1)]) gd_Reader_repeat_7 (by decide) rfl ?_
  refine gh_aload_n gd_Reader_repeat_8 1 rfl (by decide) ?_
  refine gf_5_5 gd_Reader_repeat_9 gh_k225 hF rfl ?_
  refine gh_iconst gd_Reader_repeat_12 (gh_r0 rfl) ?_
  obtain ⟨q674, h⟩ := h
  refine gh_imul gd_Reader_repeat_13 q674 ?_
  refine gh_aload_n gd_Reader_repeat_14 1 rfl (by decide) ?_
  refine gf_5_7 gd_Reader_repeat_15 gh_k227 hF ?_
  refine gh_aload_n gd_Reader_repeat_18 1 rfl (by decide) ?_
  refine gf_5_5 gd_Reader_repeat_19 gh_k225 hF rfl ?_
  obtain ⟨q675, h⟩ := h
  obtain ⟨q676, h⟩ := h
  refine la_11 gd_Reader_repeat_22 hF q675 q676 rfl ?_
  obtain ⟨q677, h⟩ := h
  refine gh_iadd gd_Reader_repeat_23 q677 ?_
  refine gh_aload_n gd_Reader_repeat_24 1 rfl (by decide) ?_
  refine gf_5_6 gd_Reader_repeat_25 gh_k226 hF rfl ?_
  obtain ⟨q678, h⟩ := h
  refine gh_isub gd_Reader_repeat_28 q678 ?_
  refine gh_name (fun v3 hn => ?_)
  have h := h v3 hn
  refine gh_istore_n (L2 := [(3, 0, v3), (2, 0, r672), (0, 2, 5), (1, 0, v1)]) gd_Reader_repeat_29 (by decide) rfl ?_
  refine gh_aload_n gd_Reader_repeat_30 2 rfl (by decide) ?_
  refine gf_5_0 gd_Reader_repeat_31 gh_k217 hF ?_
  refine gh_iload_n gd_Reader_repeat_34 1 rfl ?_
  refine gh_iconst gd_Reader_repeat_35 (gh_r0 rfl) ?_
  refine gh_aload_n gd_Reader_repeat_36 2 rfl (by decide) ?_
  refine gf_5_8 gd_Reader_repeat_37 gh_k228 hF ?_
  refine gh_iload_n gd_Reader_repeat_40 0 rfl ?_
  refine gh_iload_n gd_Reader_repeat_41 3 rfl ?_
  refine gh_bipush gd_Reader_repeat_42 (by decide) (gh_r0 rfl) ?_
  have k679 : ∀ x680 : Int, x680 = (if v1 = 42 then 0 else (m673 5 6)) → gh_T E (gh_yReader_repeat.cls, prog_9_method_12_code, 4, false, 9) (d + 2) 55 [(3, 0, v3), (2, 0, r672), (0, 2, 5), (1, 0, v1)] [(0, x680), (0, v3), (2, 12), (0, 0), (0, r672), (2, 6)] m673 (fun r m1 => gh_F m1 ∧ Q r m1) := by
    rintro _ rfl
    refine cv_Draft_addMadeRow (d := d + 1) gd_Reader_repeat_55 gh_k822 hF (Nat.le_of_ble_eq_true rfl) (gh_C.mono (s_Draft_addMadeRow_12 d r672 0 v3 (if v1 = 42 then 0 else (m673 5 6)) hF h) (fun r681 m682 hq => ?_))
    obtain ⟨hF, h⟩ := hq
    refine gh_aload_n gd_Reader_repeat_58 2 rfl (by decide) ?_
    refine gf_5_0 gd_Reader_repeat_59 gh_k217 hF ?_
    refine gh_iload_n gd_Reader_repeat_62 1 rfl ?_
    refine gh_iload_n gd_Reader_repeat_63 3 rfl ?_
    refine gh_bipush gd_Reader_repeat_64 (by decide) (gh_r0 rfl) ?_
    have k690 : ∀ x691 : Int, x691 = (if (¬ (v1 = 63)) then (1:Int) else 0) → gh_T E (gh_yReader_repeat.cls, prog_9_method_12_code, 4, false, 9) (d + 2) 74 [(3, 0, v3), (2, 0, r672), (0, 2, 5), (1, 0, v1)] [(0, x691), (0, r672), (2, 6)] m682 (fun r m1 => gh_F m1 ∧ Q r m1) := by
      rintro _ rfl
      refine gh_aload_n gd_Reader_repeat_74 2 rfl (by decide) ?_
      refine gf_5_8 gd_Reader_repeat_75 gh_k228 hF ?_
      refine gh_iload_n gd_Reader_repeat_78 0 rfl ?_
      refine gh_iload_n gd_Reader_repeat_79 3 rfl ?_
      refine gh_bipush gd_Reader_repeat_80 (by decide) (gh_r0 rfl) ?_
      have k692 : ∀ x693 : Int, x693 = (if v1 = 63 then 0 else (m682 5 6)) → gh_T E (gh_yReader_repeat.cls, prog_9_method_12_code, 4, false, 9) (d + 2) 93 [(3, 0, v3), (2, 0, r672), (0, 2, 5), (1, 0, v1)] [(0, x693), (0, v3), (2, 12), (0, (if (¬ (v1 = 63)) then (1:Int) else 0)), (0, r672), (2, 6)] m682 (fun r m1 => gh_F m1 ∧ Q r m1) := by
        rintro _ rfl
        refine cv_Draft_addMadeRow (d := d + 1) gd_Reader_repeat_93 gh_k822 hF (Nat.le_of_ble_eq_true rfl) (gh_C.mono (s_Draft_addMadeRow_12 d r672 (if (¬ (v1 = 63)) then (1:Int) else 0) v3 (if v1 = 63 then 0 else (m682 5 6)) hF h) (fun r694 m695 hq => ?_))
        obtain ⟨hF, h⟩ := hq
        refine gh_aload_n gd_Reader_repeat_96 2 rfl (by decide) ?_
        refine gf_5_7 gd_Reader_repeat_97 gh_k227 hF ?_
        refine gh_aload_n gd_Reader_repeat_100 2 rfl (by decide) ?_
        refine gf_5_5 gd_Reader_repeat_101 gh_k225 hF rfl ?_
        refine gh_dup2 gd_Reader_repeat_104 (by decide) (by decide) ?_
        obtain ⟨q696, h⟩ := h
        obtain ⟨q697, h⟩ := h
        refine la_11 gd_Reader_repeat_105 hF q696 q697 rfl ?_
        refine gh_aload_n gd_Reader_repeat_106 2 rfl (by decide) ?_
        refine gf_5_6 gd_Reader_repeat_107 gh_k226 hF rfl ?_
        obtain ⟨q698, h⟩ := h
        refine gh_isub gd_Reader_repeat_110 q698 ?_
        obtain ⟨q699, h⟩ := h
        obtain ⟨q700, h⟩ := h
        refine sa_11 gd_Reader_repeat_111 hF q699 q700 (fun hF => ?_)
        refine gh_aload_n gd_Reader_repeat_112 2 rfl (by decide) ?_
        refine gh_iconst gd_Reader_repeat_113 (gh_r0 rfl) ?_
        refine gh_iload_n gd_Reader_repeat_114 1 rfl ?_
        obtain ⟨q701, h⟩ := h
        refine gh_isub gd_Reader_repeat_115 q701 ?_
        refine cv_Reader_push (d := d + 1) gd_Reader_repeat_116 gh_k775 hF (Nat.le_of_ble_eq_true rfl) (gh_C.mono (s_Reader_push (d + 1) ((-1) - r672) hF h) (fun r702 m703 hq => ?_))
        obtain ⟨hF, h⟩ := hq
        refine gh_aload_n gd_Reader_repeat_119 2 rfl (by decide) ?_
        refine gh_iconst gd_Reader_repeat_120 (gh_r0 rfl) ?_
        refine pf_5_6 gd_Reader_repeat_121 gh_k226 hF (fun hF => ?_)
        exact gh_ret9 rfl gd_Reader_repeat_124 ⟨hF, h⟩
      refine gh_jne (tgt := 89) gd_Reader_repeat_82 (by decide) (fun c704 => ?_) (fun c704 => ?_)
      · have hz : True := trivial
        refine gh_iconst gd_Reader_repeat_85 (gh_r0 rfl) ?_
        refine gh_goto (tgt := 93) gd_Reader_repeat_86 (by decide) ?_
        exact k692 _ (by rw [if_pos c704])
      · have hz : True := trivial
        refine gh_aload_n gd_Reader_repeat_89 2 rfl (by decide) ?_
        refine gf_5_6 gd_Reader_repeat_90 gh_k226 hF rfl ?_
        exact k692 _ (by rw [if_neg c704])
    refine gh_jeq (tgt := 73) gd_Reader_repeat_66 (by decide) (fun c705 => ?_) (fun c705 => ?_)
    · have hz : True := trivial
      refine gh_iconst gd_Reader_repeat_73 (gh_r0 rfl) ?_
      exact k690 _ (if_neg (c := (¬ (v1 = 63))) (not_not_intro c705)).symm
    · have hz : True := trivial
      refine gh_iconst gd_Reader_repeat_69 (gh_r0 rfl) ?_
      refine gh_goto (tgt := 74) gd_Reader_repeat_70 (by decide) ?_
      exact k690 _ (if_pos (c := (¬ (v1 = 63))) c705).symm
  refine gh_jne (tgt := 51) gd_Reader_repeat_44 (by decide) (fun c706 => ?_) (fun c706 => ?_)
  · have hz : True := trivial
    refine gh_iconst gd_Reader_repeat_47 (gh_r0 rfl) ?_
    refine gh_goto (tgt := 55) gd_Reader_repeat_48 (by decide) ?_
    exact k679 _ (by rw [if_pos c706])
  · have hz : True := trivial
    refine gh_aload_n gd_Reader_repeat_51 2 rfl (by decide) ?_
    refine gf_5_6 gd_Reader_repeat_52 gh_k226 hF rfl ?_
    exact k679 _ (by rw [if_neg c706])
def w_Reader_take (m : gh_M) (Q : Int → gh_M → Prop) : Prop := (((m 3 2) = 1 ∨ (m 3 2) = 2 ∨ (m 3 2) = 3 → w_Reader_takeWord m (fun _ m710 => Q 0 m710)) ∧ (((m 3 2) = 40 → gh_i ((m 5 5) + 1) ∧ w_Reader_startRow (gh_u m 5 5 (min ((m 5 5) + 1) 3)) (fun _ m714 => Q 0 m714)) ∧ (((m 3 2) = 41 → w_Reader_endRow m (fun _ m717 => w_Draft_close (m717 5 5) m717 (fun r718 m719 => gh_i ((m719 5 5) - 1) ∧ gh_i ((-1) - r718) ∧ w_Reader_push ((-1) - r718) (gh_u m719 5 5 (max ((m719 5 5) - 1) 0)) (fun _ m723 => Q 0 (gh_u m723 5 6 1))))) ∧ (((m 3 2) = 58 → w_Reader_startRow (gh_u (gh_u m 5 4 2) 5 5 0) (fun _ m726 => Q 0 m726)) ∧ (((m 3 2) = 59 → w_Reader_endRow m (fun _ m729 => Q 0 (gh_u m729 5 4 0))) ∧ (((m 3 2) = 124 → w_Reader_endRow m (fun _ m732 => Q 0 m732)) ∧ (¬ ((m 3 2) = 1 ∨ (m 3 2) = 2 ∨ (m 3 2) = 3) → ¬ ((m 3 2) = 40) → ¬ ((m 3 2) = 41) → ¬ ((m 3 2) = 58) → ¬ ((m 3 2) = 59) → ¬ ((m 3 2) = 124) → w_Reader_repeat (m 3 2) m (fun _ m742 => Q 0 m742))))))))
theorem s_Reader_take {E : gh_E} {m : gh_M} {Q : Int → gh_M → Prop} (d : Nat) (hF : gh_F m) (h : w_Reader_take m Q) : gh_C E gh_yReader_take prog_9_method_7_code 2 none 9 (d + 3) [(2, 5)] m (fun r m1 => gh_F m1 ∧ Q r m1) := by
  refine gh_enter2 (L := [(0, 2, 5)]) (by decide +kernel) gh_rt9 (Nat.le_of_ble_eq_true rfl) rfl rfl ?_
  unfold w_Reader_take at h
  refine gh_aload_n gd_Reader_take_0 0 rfl (by decide) ?_
  refine gf_5_3 gd_Reader_take_1 gh_k223 hF ?_
  refine gf_3_2 gd_Reader_take_4 gh_k164 hF rfl ?_
  obtain ⟨hA, h⟩ := h
  by_cases c707 : (m 3 2) = 1 ∨ (m 3 2) = 2 ∨ (m 3 2) = 3
  · have h := hA c707
    have k708 : gh_T E (gh_yReader_take.cls, prog_9_method_7_code, 2, false, 9) (d + 3) 80 [(0, 2, 5)] [] m (fun r m1 => gh_F m1 ∧ Q r m1) := by
      refine gh_aload_n gd_Reader_take_80 0 rfl (by decide) ?_
      refine cv_Reader_takeWord (d := d + 2) gd_Reader_take_81 gh_k767 hF (Nat.le_of_ble_eq_true rfl) (gh_C.mono (s_Reader_takeWord d hF h) (fun r709 m710 hq => ?_))
      obtain ⟨hF, h⟩ := hq
      refine gh_goto (tgt := 200) gd_Reader_take_84 (by decide) ?_
      exact gh_ret9 rfl gd_Reader_take_200 ⟨hF, h⟩
    rcases c707 with e | e | e
    · exact gh_lookup (tgt := 80) gd_Reader_take_7 (by decide) (by rw [e]; decide) k708
    · exact gh_lookup (tgt := 80) gd_Reader_take_7 (by decide) (by rw [e]; decide) k708
    · exact gh_lookup (tgt := 80) gd_Reader_take_7 (by decide) (by rw [e]; decide) k708
  obtain ⟨hA, h⟩ := h
  by_cases c711 : (m 3 2) = 40
  · have h := hA c711
    refine gh_lookup (tgt := 104) gd_Reader_take_7 (by decide) (by rw [c711]; decide) ?_
    refine gh_aload_n gd_Reader_take_104 0 rfl (by decide) ?_
    refine gh_aload_n gd_Reader_take_105 0 rfl (by decide) ?_
    refine gf_5_5 gd_Reader_take_106 gh_k225 hF rfl ?_
    refine gh_iconst gd_Reader_take_109 (gh_r0 rfl) ?_
    obtain ⟨q712, h⟩ := h
    refine gh_iadd gd_Reader_take_110 q712 ?_
    refine gh_iconst gd_Reader_take_111 (gh_r0 rfl) ?_
    refine gh_pr_min gd_Reader_take_112 gh_k791 (Nat.le_of_ble_eq_true rfl) ?_
    refine pf_5_5 gd_Reader_take_115 gh_k225 hF (fun hF => ?_)
    refine gh_aload_n gd_Reader_take_118 0 rfl (by decide) ?_
    refine cv_Reader_startRow (d := d + 2) gd_Reader_take_119 gh_k787 hF (Nat.le_of_ble_eq_true rfl) (gh_C.mono (s_Reader_startRow (d + 2) hF h) (fun r713 m714 hq => ?_))
    obtain ⟨hF, h⟩ := hq
    refine gh_goto (tgt := 200) gd_Reader_take_122 (by decide) ?_
    exact gh_ret9 rfl gd_Reader_take_200 ⟨hF, h⟩
  obtain ⟨hA, h⟩ := h
  by_cases c715 : (m 3 2) = 41
  · have h := hA c715
    refine gh_lookup (tgt := 144) gd_Reader_take_7 (by decide) (by rw [c715]; decide) ?_
    refine gh_aload_n gd_Reader_take_144 0 rfl (by decide) ?_
    refine cv_Reader_endRow (d := d + 2) gd_Reader_take_145 gh_k794 hF (Nat.le_of_ble_eq_true rfl) (gh_C.mono (s_Reader_endRow d hF h) (fun r716 m717 hq => ?_))
    obtain ⟨hF, h⟩ := hq
    refine gh_aload_n gd_Reader_take_148 0 rfl (by decide) ?_
    refine gf_5_0 gd_Reader_take_149 gh_k217 hF ?_
    refine gh_aload_n gd_Reader_take_152 0 rfl (by decide) ?_
    refine gf_5_5 gd_Reader_take_153 gh_k225 hF rfl ?_
    refine cv_Draft_close (d := d + 2) gd_Reader_take_156 gh_k806 hF (Nat.le_of_ble_eq_true rfl) (gh_C.mono (s_Draft_close (d + 1) (m717 5 5) hF h) (fun r718 m719 hq => ?_))
    obtain ⟨hF, h⟩ := hq
    refine gh_istore_n (L2 := [(1, 0, r718), (0, 2, 5)]) gd_Reader_take_159 (by decide) rfl ?_
    refine gh_aload_n gd_Reader_take_160 1 rfl (by decide) ?_
    refine gh_aload_n gd_Reader_take_161 1 rfl (by decide) ?_
    refine gf_5_5 gd_Reader_take_162 gh_k225 hF rfl ?_
    refine gh_iconst gd_Reader_take_165 (gh_r0 rfl) ?_
    obtain ⟨q720, h⟩ := h
    refine gh_isub gd_Reader_take_166 q720 ?_
    refine gh_iconst gd_Reader_take_167 (gh_r0 rfl) ?_
    refine gh_pr_max gd_Reader_take_168 gh_k814 (Nat.le_of_ble_eq_true rfl) ?_
    refine pf_5_5 gd_Reader_take_171 gh_k225 hF (fun hF => ?_)
    refine gh_aload_n gd_Reader_take_174 1 rfl (by decide) ?_
    refine gh_iconst gd_Reader_take_175 (gh_r0 rfl) ?_
    refine gh_iload_n gd_Reader_take_176 0 rfl ?_
    obtain ⟨q721, h⟩ := h
    refine gh_isub gd_Reader_take_177 q721 ?_
    refine cv_Reader_push (d := d + 2) gd_Reader_take_178 gh_k775 hF (Nat.le_of_ble_eq_true rfl) (gh_C.mono (s_Reader_push (d + 2) ((-1) - r718) hF h) (fun r722 m723 hq => ?_))
    obtain ⟨hF, h⟩ := hq
    refine gh_aload_n gd_Reader_take_181 1 rfl (by decide) ?_
    refine gh_iconst gd_Reader_take_182 (gh_r0 rfl) ?_
    refine pf_5_6 gd_Reader_take_183 gh_k226 hF (fun hF => ?_)
    refine gh_goto (tgt := 200) gd_Reader_take_186 (by decide) ?_
    exact gh_ret9 rfl gd_Reader_take_200 ⟨hF, h⟩
  obtain ⟨hA, h⟩ := h
  by_cases c724 : (m 3 2) = 58
  · have h := hA c724
    refine gh_lookup (tgt := 87) gd_Reader_take_7 (by decide) (by rw [c724]; decide) ?_
    refine gh_aload_n gd_Reader_take_87 0 rfl (by decide) ?_
    refine gh_iconst gd_Reader_take_88 (gh_r0 rfl) ?_
    refine pf_5_4 gd_Reader_take_89 gh_k224 hF (fun hF => ?_)
    refine gh_aload_n gd_Reader_take_92 0 rfl (by decide) ?_
    refine gh_iconst gd_Reader_take_93 (gh_r0 rfl) ?_
    refine pf_5_5 gd_Reader_take_94 gh_k225 hF (fun hF => ?_)
    refine gh_aload_n gd_Reader_take_97 0 rfl (by decide) ?_
    refine cv_Reader_startRow (d := d + 2) gd_Reader_take_98 gh_k787 hF (Nat.le_of_ble_eq_true rfl) (gh_C.mono (s_Reader_startRow (d + 2) hF h) (fun r725 m726 hq => ?_))
    obtain ⟨hF, h⟩ := hq
    refine gh_goto (tgt := 200) gd_Reader_take_101 (by decide) ?_
    exact gh_ret9 rfl gd_Reader_take_200 ⟨hF, h⟩
  obtain ⟨hA, h⟩ := h
  by_cases c727 : (m 3 2) = 59
  · have h := hA c727
    refine gh_lookup (tgt := 132) gd_Reader_take_7 (by decide) (by rw [c727]; decide) ?_
    refine gh_aload_n gd_Reader_take_132 0 rfl (by decide) ?_
    refine cv_Reader_endRow (d := d + 2) gd_Reader_take_133 gh_k794 hF (Nat.le_of_ble_eq_true rfl) (gh_C.mono (s_Reader_endRow d hF h) (fun r728 m729 hq => ?_))
    obtain ⟨hF, h⟩ := hq
    refine gh_aload_n gd_Reader_take_136 0 rfl (by decide) ?_
    refine gh_iconst gd_Reader_take_137 (gh_r0 rfl) ?_
    refine pf_5_4 gd_Reader_take_138 gh_k224 hF (fun hF => ?_)
    refine gh_goto (tgt := 200) gd_Reader_take_141 (by decide) ?_
    exact gh_ret9 rfl gd_Reader_take_200 ⟨hF, h⟩
  obtain ⟨hA, h⟩ := h
  by_cases c730 : (m 3 2) = 124
  · have h := hA c730
    refine gh_lookup (tgt := 125) gd_Reader_take_7 (by decide) (by rw [c730]; decide) ?_
    refine gh_aload_n gd_Reader_take_125 0 rfl (by decide) ?_
    refine cv_Reader_endRow (d := d + 2) gd_Reader_take_126 gh_k794 hF (Nat.le_of_ble_eq_true rfl) (gh_C.mono (s_Reader_endRow d hF h) (fun r731 m732 hq => ?_))
    obtain ⟨hF, h⟩ := hq
    refine gh_goto (tgt := 200) gd_Reader_take_129 (by decide) ?_
    exact gh_ret9 rfl gd_Reader_take_200 ⟨hF, h⟩
  have n733 : ¬ ((m 3 2) = 1) := fun z => c707 (by simp [z])
  have n734 : ¬ ((m 3 2) = 2) := fun z => c707 (by simp [z])
  have n735 : ¬ ((m 3 2) = 3) := fun z => c707 (by simp [z])
  have n736 : ¬ ((m 3 2) = 40) := c711
  have n737 : ¬ ((m 3 2) = 41) := c715
  have n738 : ¬ ((m 3 2) = 58) := c724
  have n739 : ¬ ((m 3 2) = 59) := c727
  have n740 : ¬ ((m 3 2) = 124) := c730
  refine gh_lookup (tgt := 189) gd_Reader_take_7 (by decide) (by simp [Op.lookupswitch.offset]; rw [if_neg (Ne.symm n733), if_neg (Ne.symm n734), if_neg (Ne.symm n735), if_neg (Ne.symm n736), if_neg (Ne.symm n737), if_neg (Ne.symm n738), if_neg (Ne.symm n739), if_neg (Ne.symm n740)]; rfl) ?_
  have h := h c707 c711 c715 c724 c727 c730
  refine gh_aload_n gd_Reader_take_189 0 rfl (by decide) ?_
  refine gh_aload_n gd_Reader_take_190 0 rfl (by decide) ?_
  refine gf_5_3 gd_Reader_take_191 gh_k223 hF ?_
  refine gf_3_2 gd_Reader_take_194 gh_k164 hF rfl ?_
  refine cv_Reader_repeat (d := d + 2) gd_Reader_take_197 gh_k817 hF (Nat.le_of_ble_eq_true rfl) (gh_C.mono (s_Reader_repeat d (m 3 2) hF h) (fun r741 m742 hq => ?_))
  obtain ⟨hF, h⟩ := hq
  exact gh_ret9 rfl gd_Reader_take_200 ⟨hF, h⟩
def f_Reader_allNamesHaveRules_12 (Q : Int → gh_M → Prop) (K12 : Int → Int → gh_M → Prop) (v1 : Int) (v2 : Int) (m : gh_M) : Prop := ((v2 ≤ 240 → w_Tape_advance m (fun _ m747 => ∃ J79 : Prop, (J79 → (((m747 3 2) = 4 → Q 1 m747) ∧ (¬ ((m747 3 2) = 4) → ∀ v1' : Int, v1' = m747 3 2 → gh_i (v2 + 1) ∧ K12 v1' (v2 + 1) m747))) ∧ (((¬ ((m747 3 2) = 1) ∨ (v1 = 59)) → J79) ∧ (¬ (¬ ((m747 3 2) = 1) ∨ (v1 = 59)) → w_Tape_key m747 (fun r752 => w_Draft_find r752 m747 (fun r754 => ((r754 = (-1) → Q 0 (gh_u (gh_u m747 5 1 5) 5 2 (m747 3 3))) ∧ (¬ (r754 = (-1)) → J79)))))))) ∧ (¬ (v2 ≤ 240) → Q 1 m))
def w_Reader_allNamesHaveRules (m : gh_M) (Q : Int → gh_M → Prop) : Prop := w_Tape_rewind m (fun _ m744 => gh_M2 (fun K12 v1 v2 m => f_Reader_allNamesHaveRules_12 Q K12 v1 v2 m) 59 0 m744)
theorem b_Reader_allNamesHaveRules_12 {E : gh_E} {Q : Int → gh_M → Prop} {K12 : Int → Int → gh_M → Prop} (d : Nat) (hK : ∀ (v1 : Int) (v2 : Int) (m : gh_M), gh_F m → K12 v1 v2 m → gh_T E (gh_yReader_allNamesHaveRules.cls, prog_9_method_3_code, 3, false, 8) (d + 3) 12 [(0, 2, 5), (1, 0, v1), (2, 0, v2)] [] m (fun r m1 => gh_F m1 ∧ Q r m1)) (v1 : Int) (v2 : Int) (m : gh_M) (hF : gh_F m) (h : f_Reader_allNamesHaveRules_12 Q K12 v1 v2 m) : gh_T E (gh_yReader_allNamesHaveRules.cls, prog_9_method_3_code, 3, false, 8) (d + 3) 12 [(0, 2, 5), (1, 0, v1), (2, 0, v2)] [] m (fun r m1 => gh_F m1 ∧ Q r m1) := by
  have hK12 := hK
  unfold f_Reader_allNamesHaveRules_12 at h
  refine gh_iload_n gd_Reader_allNamesHaveRules_12 2 rfl ?_
  refine gh_sipush gd_Reader_allNamesHaveRules_13 (by decide) (gh_r0 rfl) ?_
  obtain ⟨hA, hB⟩ := h
  refine gh_jgt (tgt := 106) gd_Reader_allNamesHaveRules_16 (by decide) (fun c745 => ?_) (fun c745 => ?_)
  · have h := hA c745
    refine gh_aload_n gd_Reader_allNamesHaveRules_19 0 rfl (by decide) ?_
    refine gf_5_3 gd_Reader_allNamesHaveRules_20 gh_k223 hF ?_
    refine cv_Tape_advance (d := d + 2) gd_Reader_allNamesHaveRules_23 gh_k709 hF (Nat.le_of_ble_eq_true rfl) (gh_C.mono (s_Tape_advance d hF h) (fun r746 m747 hq => ?_))
    obtain ⟨hF, h⟩ := hq
    refine gh_aload_n gd_Reader_allNamesHaveRules_26 0 rfl (by decide) ?_
    refine gf_5_3 gd_Reader_allNamesHaveRules_27 gh_k223 hF ?_
    refine gf_3_2 gd_Reader_allNamesHaveRules_30 gh_k164 hF rfl ?_
    refine gh_iconst gd_Reader_allNamesHaveRules_33 (gh_r0 rfl) ?_
    obtain ⟨J79, hJ79, h⟩ := h
    have hJ79 : gh_F m747 → J79 → gh_T E (gh_yReader_allNamesHaveRules.cls, prog_9_method_3_code, 3, false, 8) (d + 3) 79 [(0, 2, 5), (2, 0, v2)] [] m747 (fun r m1 => gh_F m1 ∧ Q r m1) := by
      intro hF hj
      have h := hJ79 hj
      refine gh_aload_n gd_Reader_allNamesHaveRules_79 0 rfl (by decide) ?_
      refine gf_5_3 gd_Reader_allNamesHaveRules_80 gh_k223 hF ?_
      refine gf_3_2 gd_Reader_allNamesHaveRules_83 gh_k164 hF rfl ?_
      refine gh_iconst gd_Reader_allNamesHaveRules_86 (gh_r0 rfl) ?_
      obtain ⟨hA, hB⟩ := h
      refine gh_jne (tgt := 92) gd_Reader_allNamesHaveRules_87 (by decide) (fun c748 => ?_) (fun c748 => ?_)
      · have h := hA c748
        refine gh_iconst gd_Reader_allNamesHaveRules_90 (gh_r0 rfl) ?_
        exact gh_ret8 rfl gd_Reader_allNamesHaveRules_91 (by decide) ⟨hF, h⟩
      · have h := hB c748
        refine gh_aload_n gd_Reader_allNamesHaveRules_92 0 rfl (by decide) ?_
        refine gf_5_3 gd_Reader_allNamesHaveRules_93 gh_k223 hF ?_
        refine gf_3_2 gd_Reader_allNamesHaveRules_96 gh_k164 hF rfl ?_
        refine gh_name (fun v1' hn => ?_)
        have h := h v1' hn
        refine gh_istore_n (L2 := [(1, 0, v1'), (0, 2, 5), (2, 0, v2)]) gd_Reader_allNamesHaveRules_99 (by decide) rfl ?_
        obtain ⟨q749, h⟩ := h
        refine gh_iinc (L2 := [(2, 0, v2 + 1), (1, 0, v1'), (0, 2, 5)]) gd_Reader_allNamesHaveRules_100 2 rfl q749 (by decide) rfl ?_
        refine gh_goto (tgt := 12) gd_Reader_allNamesHaveRules_103 (by decide) ?_
        refine gh_pick (L2 := [(0, 2, 5), (1, 0, v1'), (2, 0, v2 + 1)]) [2, 1, 0] rfl ?_
        exact hK12 v1' (v2 + 1) m747 hF h
    obtain ⟨hA, hB⟩ := h
    have k750 : (¬ ((m747 3 2) = 1) ∨ (v1 = 59)) → gh_T E (gh_yReader_allNamesHaveRules.cls, prog_9_method_3_code, 3, false, 8) (d + 3) 79 [(0, 2, 5), (1, 0, v1), (2, 0, v2)] [] m747 (fun r m1 => gh_F m1 ∧ Q r m1) := by
      intro c
      have h := hA c
      refine gh_pick (L2 := [(0, 2, 5), (2, 0, v2)]) [0, 2] rfl ?_
      exact hJ79 hF h
    have k751 : ¬ (¬ ((m747 3 2) = 1) ∨ (v1 = 59)) → gh_T E (gh_yReader_allNamesHaveRules.cls, prog_9_method_3_code, 3, false, 8) (d + 3) 43 [(0, 2, 5), (1, 0, v1), (2, 0, v2)] [] m747 (fun r m1 => gh_F m1 ∧ Q r m1) := by
      intro c
      have h := hB c
      refine gh_aload_n gd_Reader_allNamesHaveRules_43 0 rfl (by decide) ?_
      refine gf_5_0 gd_Reader_allNamesHaveRules_44 gh_k217 hF ?_
      refine gh_aload_n gd_Reader_allNamesHaveRules_47 0 rfl (by decide) ?_
      refine gf_5_3 gd_Reader_allNamesHaveRules_48 gh_k223 hF ?_
      refine cv_Tape_key (d := d + 2) gd_Reader_allNamesHaveRules_51 gh_k751 hF (Nat.le_of_ble_eq_true rfl) (gh_C.pw (s_Tape_key (d + 1) hF h) (fun r752 h => ?_))
      refine cv_Draft_find (d := d + 2) gd_Reader_allNamesHaveRules_54 gh_k755 hF (Nat.le_of_ble_eq_true rfl) (gh_C.pw (s_Draft_find (d + 2) r752 hF h) (fun r754 h => ?_))
      refine gh_iconst gd_Reader_allNamesHaveRules_57 (gh_r0 rfl) ?_
      obtain ⟨hA, hB⟩ := h
      refine gh_jne (tgt := 79) gd_Reader_allNamesHaveRules_58 (by decide) (fun c756 => ?_) (fun c756 => ?_)
      · have h := hA c756
        refine gh_aload_n gd_Reader_allNamesHaveRules_61 0 rfl (by decide) ?_
        refine gh_iconst gd_Reader_allNamesHaveRules_62 (gh_r0 rfl) ?_
        refine pf_5_1 gd_Reader_allNamesHaveRules_63 gh_k219 hF (fun hF => ?_)
        refine gh_aload_n gd_Reader_allNamesHaveRules_66 0 rfl (by decide) ?_
        refine gh_aload_n gd_Reader_allNamesHaveRules_67 0 rfl (by decide) ?_
        refine gf_5_3 gd_Reader_allNamesHaveRules_68 gh_k223 hF ?_
        refine gf_3_3 gd_Reader_allNamesHaveRules_71 gh_k166 hF (gh_u_a (by decide)) ?_
        refine pf_5_2 gd_Reader_allNamesHaveRules_74 gh_k221 hF (fun hF => ?_)
        refine gh_iconst gd_Reader_allNamesHaveRules_77 (gh_r0 rfl) ?_
        exact gh_ret8 rfl gd_Reader_allNamesHaveRules_78 (by decide) ⟨hF, h⟩
      · have h := hB c756
        refine gh_pick (L2 := [(0, 2, 5), (2, 0, v2)]) [0, 2] rfl ?_
        exact hJ79 hF h
    refine gh_jne (tgt := 79) gd_Reader_allNamesHaveRules_34 (by decide) (fun c757 => ?_) (fun c757 => ?_)
    · have hz : True := trivial
      refine gh_iload_n gd_Reader_allNamesHaveRules_37 1 rfl ?_
      refine gh_bipush gd_Reader_allNamesHaveRules_38 (by decide) (gh_r0 rfl) ?_
      refine gh_jeq (tgt := 79) gd_Reader_allNamesHaveRules_40 (by decide) (fun c758 => ?_) (fun c758 => ?_)
      · have hz : True := trivial
        exact k750 (Or.inr c758)
      · have hz : True := trivial
        exact k751 (fun z => z.elim (fun w => w c757) c758)
    · have hz : True := trivial
      exact k750 (Or.inl c757)
  · have h := hB c745
    refine gh_iconst gd_Reader_allNamesHaveRules_106 (gh_r0 rfl) ?_
    exact gh_ret8 rfl gd_Reader_allNamesHaveRules_107 (by decide) ⟨hF, h⟩
theorem s_Reader_allNamesHaveRules {E : gh_E} {m : gh_M} {Q : Int → gh_M → Prop} (d : Nat) (hF : gh_F m) (h : w_Reader_allNamesHaveRules m Q) : gh_C E gh_yReader_allNamesHaveRules prog_9_method_3_code 3 (some .boolean) 8 (d + 3) [(2, 5)] m (fun r m1 => gh_F m1 ∧ Q r m1) := by
  refine gh_enter2 (L := [(0, 2, 5)]) (by decide +kernel) gh_rt8 (Nat.le_of_ble_eq_true rfl) rfl rfl ?_
  unfold w_Reader_allNamesHaveRules at h
  refine gh_bipush gd_Reader_allNamesHaveRules_0 (by decide) (gh_r0 rfl) ?_
  refine gh_istore_n (L2 := [(1, 0, 59), (0, 2, 5)]) gd_Reader_allNamesHaveRules_2 (by decide) rfl ?_
  refine gh_aload_n gd_Reader_allNamesHaveRules_3 1 rfl (by decide) ?_
  refine gf_5_3 gd_Reader_allNamesHaveRules_4 gh_k223 hF ?_
  refine cv_Tape_rewind (d := d + 2) gd_Reader_allNamesHaveRules_7 gh_k705 hF (Nat.le_of_ble_eq_true rfl) (gh_C.mono (s_Tape_rewind (d + 2) hF h) (fun r743 m744 hq => ?_))
  obtain ⟨hF, h⟩ := hq
  refine gh_iconst gd_Reader_allNamesHaveRules_10 (gh_r0 rfl) ?_
  refine gh_istore_n (L2 := [(2, 0, 0), (1, 0, 59), (0, 2, 5)]) gd_Reader_allNamesHaveRules_11 (by decide) rfl ?_
  refine gh_pick (L2 := [(0, 2, 5), (1, 0, 59), (2, 0, 0)]) [2, 1, 0] rfl ?_
  exact gh_M2_sound (T := fun v1 v2 m => gh_T E (gh_yReader_allNamesHaveRules.cls, prog_9_method_3_code, 3, false, 8) (d + 3) 12 [(0, 2, 5), (1, 0, v1), (2, 0, v2)] [] m (fun r m1 => gh_F m1 ∧ Q r m1)) (fun _ _ m => gh_F m) (fun K12 v1 v2 m hK hF h => b_Reader_allNamesHaveRules_12 d hK v1 v2 m hF h) 59 0 m744 hF h
def f_Reader_run_31 (Q : Int → gh_M → Prop) (K31 : Int → gh_M → Prop) (v1 : Int) (m : gh_M) : Prop := ∃ J96 : gh_M → Prop, (∀ (m : gh_M), J96 m → w_Reader_allNamesHaveRules m (fun r763 m764 => (r763 = 0 ∨ r763 = 1) ∧ Q r763 m764)) ∧ ((v1 ≤ 240 → w_Tape_advance m (fun _ m768 => w_Reader_faultHere m768 (fun r769 => ((r769 = 0 → (((m768 3 2) = 4 → J96 m768) ∧ (¬ ((m768 3 2) = 4) → w_Reader_take m768 (fun _ m774 => gh_i (v1 + 1) ∧ K31 (v1 + 1) m774)))) ∧ (¬ (r769 = 0) → Q 0 (gh_u (gh_u m768 5 1 r769) 5 2 (m768 3 3))))))) ∧ (¬ (v1 ≤ 240) → J96 m))
def w_Reader_run (m : gh_M) (Q : Int → gh_M → Prop) : Prop := w_Draft_clear m (fun _ m760 => w_Tape_rewind m760 (fun _ m762 => gh_M1 (fun K31 v1 m => f_Reader_run_31 Q K31 v1 m) 0 (gh_u (gh_u (gh_u m762 5 4 0) 5 1 0) 5 2 (-1))))
theorem b_Reader_run_31 {E : gh_E} {Q : Int → gh_M → Prop} {K31 : Int → gh_M → Prop} (d : Nat) (hK : ∀ (v1 : Int) (m : gh_M), gh_F m → K31 v1 m → gh_T E (gh_yReader_run.cls, prog_9_method_2_code, 3, false, 8) (d + 4) 31 [(0, 2, 5), (1, 0, v1)] [] m (fun r m1 => gh_F m1 ∧ Q r m1)) (v1 : Int) (m : gh_M) (hF : gh_F m) (h : f_Reader_run_31 Q K31 v1 m) : gh_T E (gh_yReader_run.cls, prog_9_method_2_code, 3, false, 8) (d + 4) 31 [(0, 2, 5), (1, 0, v1)] [] m (fun r m1 => gh_F m1 ∧ Q r m1) := by
  have hK31 := hK
  unfold f_Reader_run_31 at h
  refine gh_iload_n gd_Reader_run_31 1 rfl ?_
  refine gh_sipush gd_Reader_run_32 (by decide) (gh_r0 rfl) ?_
  obtain ⟨J96, hJ96, h⟩ := h
  have hJ96 : ∀ (m : gh_M), gh_F m → J96 m → gh_T E (gh_yReader_run.cls, prog_9_method_2_code, 3, false, 8) (d + 4) 96 [(0, 2, 5)] [] m (fun r m1 => gh_F m1 ∧ Q r m1) := by
    intro m hF hj
    have h := hJ96 m hj
    refine gh_aload_n gd_Reader_run_96 0 rfl (by decide) ?_
    refine cv_Reader_allNamesHaveRules (d := d + 3) gd_Reader_run_97 gh_k826 hF (Nat.le_of_ble_eq_true rfl) (gh_C.mono (s_Reader_allNamesHaveRules d hF h) (fun r763 m764 hq => ?_))
    obtain ⟨hF, h⟩ := hq
    obtain ⟨q765, h⟩ := h
    exact gh_ret8 rfl gd_Reader_run_100 q765 ⟨hF, h⟩
  obtain ⟨hA, hB⟩ := h
  refine gh_jgt (tgt := 96) gd_Reader_run_35 (by decide) (fun c766 => ?_) (fun c766 => ?_)
  · have h := hA c766
    refine gh_aload_n gd_Reader_run_38 0 rfl (by decide) ?_
    refine gf_5_3 gd_Reader_run_39 gh_k223 hF ?_
    refine cv_Tape_advance (d := d + 3) gd_Reader_run_42 gh_k709 hF (Nat.le_of_ble_eq_true rfl) (gh_C.mono (s_Tape_advance (d + 1) hF h) (fun r767 m768 hq => ?_))
    obtain ⟨hF, h⟩ := hq
    refine gh_aload_n gd_Reader_run_45 0 rfl (by decide) ?_
    refine cv_Reader_faultHere (d := d + 3) gd_Reader_run_46 gh_k735 hF (Nat.le_of_ble_eq_true rfl) (gh_C.pw (s_Reader_faultHere d hF h) (fun r769 h => ?_))
    refine gh_istore_n (L2 := [(2, 0, r769), (0, 2, 5), (1, 0, v1)]) gd_Reader_run_49 (by decide) rfl ?_
    refine gh_iload_n gd_Reader_run_50 0 rfl ?_
    obtain ⟨hA, hB⟩ := h
    refine gh_zeq (tgt := 72) gd_Reader_run_51 (by decide) (fun c771 => ?_) (fun c771 => ?_)
    · have h := hA c771
      refine gh_aload_n gd_Reader_run_72 1 rfl (by decide) ?_
      refine gf_5_3 gd_Reader_run_73 gh_k223 hF ?_
      refine gf_3_2 gd_Reader_run_76 gh_k164 hF rfl ?_
      refine gh_iconst gd_Reader_run_79 (gh_r0 rfl) ?_
      obtain ⟨hA, hB⟩ := h
      refine gh_jne (tgt := 86) gd_Reader_run_80 (by decide) (fun c772 => ?_) (fun c772 => ?_)
      · have h := hA c772
        refine gh_goto (tgt := 96) gd_Reader_run_83 (by decide) ?_
        refine gh_pick (L2 := [(0, 2, 5)]) [1] rfl ?_
        exact hJ96 m768 hF h
      · have h := hB c772
        refine gh_aload_n gd_Reader_run_86 1 rfl (by decide) ?_
        refine cv_Reader_take (d := d + 3) gd_Reader_run_87 gh_k763 hF (Nat.le_of_ble_eq_true rfl) (gh_C.mono (s_Reader_take d hF h) (fun r773 m774 hq => ?_))
        obtain ⟨hF, h⟩ := hq
        obtain ⟨q775, h⟩ := h
        refine gh_iinc (L2 := [(1, 0, v1 + 1), (2, 0, r769), (0, 2, 5)]) gd_Reader_run_90 2 rfl q775 (by decide) rfl ?_
        refine gh_goto (tgt := 31) gd_Reader_run_93 (by decide) ?_
        refine gh_pick (L2 := [(0, 2, 5), (1, 0, v1 + 1)]) [2, 0] rfl ?_
        exact hK31 (v1 + 1) m774 hF h
    · have h := hB c771
      refine gh_aload_n gd_Reader_run_54 1 rfl (by decide) ?_
      refine gh_iload_n gd_Reader_run_55 0 rfl ?_
      refine pf_5_1 gd_Reader_run_56 gh_k219 hF (fun hF => ?_)
      refine gh_aload_n gd_Reader_run_59 1 rfl (by decide) ?_
      refine gh_aload_n gd_Reader_run_60 1 rfl (by decide) ?_
      refine gf_5_3 gd_Reader_run_61 gh_k223 hF ?_
      refine gf_3_3 gd_Reader_run_64 gh_k166 hF (gh_u_a (by decide)) ?_
      refine pf_5_2 gd_Reader_run_67 gh_k221 hF (fun hF => ?_)
      refine gh_iconst gd_Reader_run_70 (gh_r0 rfl) ?_
      exact gh_ret8 rfl gd_Reader_run_71 (by decide) ⟨hF, h⟩
  · have h := hB c766
    refine gh_pick (L2 := [(0, 2, 5)]) [0] rfl ?_
    exact hJ96 m hF h
theorem s_Reader_run {E : gh_E} {m : gh_M} {Q : Int → gh_M → Prop} (d : Nat) (hF : gh_F m) (h : w_Reader_run m Q) : gh_C E gh_yReader_run prog_9_method_2_code 3 (some .boolean) 8 (d + 4) [(2, 5)] m (fun r m1 => gh_F m1 ∧ Q r m1) := by
  refine gh_enter2 (L := [(0, 2, 5)]) (by decide +kernel) gh_rt8 (Nat.le_of_ble_eq_true rfl) rfl rfl ?_
  unfold w_Reader_run at h
  refine gh_aload_n gd_Reader_run_0 0 rfl (by decide) ?_
  refine gf_5_0 gd_Reader_run_1 gh_k217 hF ?_
  refine cv_Draft_clear (d := d + 3) gd_Reader_run_4 gh_k701 hF (Nat.le_of_ble_eq_true rfl) (gh_C.mono (s_Draft_clear (d + 3) hF h) (fun r759 m760 hq => ?_))
  obtain ⟨hF, h⟩ := hq
  refine gh_aload_n gd_Reader_run_7 0 rfl (by decide) ?_
  refine gf_5_3 gd_Reader_run_8 gh_k223 hF ?_
  refine cv_Tape_rewind (d := d + 3) gd_Reader_run_11 gh_k705 hF (Nat.le_of_ble_eq_true rfl) (gh_C.mono (s_Tape_rewind (d + 3) hF h) (fun r761 m762 hq => ?_))
  obtain ⟨hF, h⟩ := hq
  refine gh_aload_n gd_Reader_run_14 0 rfl (by decide) ?_
  refine gh_iconst gd_Reader_run_15 (gh_r0 rfl) ?_
  refine pf_5_4 gd_Reader_run_16 gh_k224 hF (fun hF => ?_)
  refine gh_aload_n gd_Reader_run_19 0 rfl (by decide) ?_
  refine gh_iconst gd_Reader_run_20 (gh_r0 rfl) ?_
  refine pf_5_1 gd_Reader_run_21 gh_k219 hF (fun hF => ?_)
  refine gh_aload_n gd_Reader_run_24 0 rfl (by decide) ?_
  refine gh_iconst gd_Reader_run_25 (gh_r0 rfl) ?_
  refine pf_5_2 gd_Reader_run_26 gh_k221 hF (fun hF => ?_)
  refine gh_iconst gd_Reader_run_29 (gh_r0 rfl) ?_
  refine gh_istore_n (L2 := [(1, 0, 0), (0, 2, 5)]) gd_Reader_run_30 (by decide) rfl ?_
  refine gh_pick (L2 := [(0, 2, 5), (1, 0, 0)]) [1, 0] rfl ?_
  exact gh_M1_sound (T := fun v1 m => gh_T E (gh_yReader_run.cls, prog_9_method_2_code, 3, false, 8) (d + 4) 31 [(0, 2, 5), (1, 0, v1)] [] m (fun r m1 => gh_F m1 ∧ Q r m1)) (fun _ m => gh_F m) (fun K31 v1 m hK hF h => b_Reader_run_31 d hK v1 m hF h) 0 (gh_u (gh_u (gh_u m762 5 4 0) 5 1 0) 5 2 (-1)) hF h
def f_Facts_isEmptyRow_3 (v1 : Int) (v3 : Int) (Q : Int → Prop) (m : gh_M) (K3 : Int → Prop) (v4 : Int) : Prop := 0 ≤ v1 ∧ v1 < 20 ∧ ((v4 < (m 17 v1) → k_Grammar_nameAt v1 v4 m ∧ ∀ v5 : Int, v5 = x_Grammar_nameAt v1 v4 m → ∃ J55 : Prop, (J55 → gh_i (v4 + 1) ∧ K3 (v4 + 1)) ∧ (((¬ (v4 = v3) ∧ ((v5 = (-1)) ∨ ((gh_iand_f (gh_ishr_f (m 20 1) v5) 1) = 0))) → Q 0) ∧ (¬ (¬ (v4 = v3) ∧ ((v5 = (-1)) ∨ ((gh_iand_f (gh_ishr_f (m 20 1) v5) 1) = 0))) → J55))) ∧ (¬ (v4 < (m 17 v1)) → Q 1))
def w_Facts_isEmptyRow (v1 : Int) (v2 : Int) (v3 : Int) (m : gh_M) (Q : Int → Prop) : Prop := gh_L1 (fun K3 v4 => f_Facts_isEmptyRow_3 v1 v3 Q m K3 v4) v2
theorem b_Facts_isEmptyRow_3 {E : gh_E} {v1 : Int} {v3 : Int} {Q : Int → Prop} {K3 : Int → Prop} (d : Nat) {m : gh_M} (hK : ∀ (v4 : Int), gh_F m → K3 v4 → gh_T E (gh_yFacts_isEmptyRow.cls, prog_4_method_5_code, 6, false, 8) (d + 2) 3 [(0, 2, 20), (1, 0, v1), (3, 0, v3), (4, 0, v4)] [] m (fun r m1 => m1 = m ∧ Q r)) (v4 : Int) (hF : gh_F m) (h : f_Facts_isEmptyRow_3 v1 v3 Q m K3 v4) : gh_T E (gh_yFacts_isEmptyRow.cls, prog_4_method_5_code, 6, false, 8) (d + 2) 3 [(0, 2, 20), (1, 0, v1), (3, 0, v3), (4, 0, v4)] [] m (fun r m1 => m1 = m ∧ Q r) := by
  have hK3 := hK
  unfold f_Facts_isEmptyRow_3 at h
  refine gh_iload gd_Facts_isEmptyRow_3 3 rfl ?_
  refine gh_aload_n gd_Facts_isEmptyRow_5 0 rfl (by decide) ?_
  refine gf_20_0 gd_Facts_isEmptyRow_6 gh_k319 hF ?_
  refine gf_13_6 gd_Facts_isEmptyRow_9 gh_k285 hF ?_
  refine gh_iload_n gd_Facts_isEmptyRow_12 1 rfl ?_
  obtain ⟨q776, h⟩ := h
  obtain ⟨q777, h⟩ := h
  refine la_17 gd_Facts_isEmptyRow_13 hF q776 q777 rfl ?_
  obtain ⟨hA, hB⟩ := h
  refine gh_jge (tgt := 61) gd_Facts_isEmptyRow_14 (by decide) (fun c778 => ?_) (fun c778 => ?_)
  · have h := hA c778
    refine gh_aload_n gd_Facts_isEmptyRow_17 0 rfl (by decide) ?_
    refine gf_20_0 gd_Facts_isEmptyRow_18 gh_k319 hF ?_
    refine gh_iload_n gd_Facts_isEmptyRow_21 1 rfl ?_
    refine gh_iload gd_Facts_isEmptyRow_22 3 rfl ?_
    obtain ⟨q779, h⟩ := h
    refine cv_Grammar_nameAt (d := d + 1) gd_Facts_isEmptyRow_24 gh_k869 hF (Nat.le_of_ble_eq_true rfl) (gh_C.pe (e_Grammar_nameAt d v1 v4 hF q779) ?_)
    refine gh_name (fun v5 hn => ?_)
    have h := h v5 hn
    refine gh_istore (L2 := [(5, 0, v5), (0, 2, 20), (1, 0, v1), (3, 0, v3), (4, 0, v4)]) gd_Facts_isEmptyRow_27 (by decide) rfl ?_
    refine gh_iload gd_Facts_isEmptyRow_29 4 rfl ?_
    refine gh_iload_n gd_Facts_isEmptyRow_31 3 rfl ?_
    obtain ⟨J55, hJ55, h⟩ := h
    have hJ55 : gh_F m → J55 → gh_T E (gh_yFacts_isEmptyRow.cls, prog_4_method_5_code, 6, false, 8) (d + 2) 55 [(0, 2, 20), (1, 0, v1), (3, 0, v3), (4, 0, v4)] [] m (fun r m1 => m1 = m ∧ Q r) := by
      intro hF hj
      have h := hJ55 hj
      obtain ⟨q780, h⟩ := h
      refine gh_iinc (L2 := [(4, 0, v4 + 1), (0, 2, 20), (1, 0, v1), (3, 0, v3)]) gd_Facts_isEmptyRow_55 3 rfl q780 (by decide) rfl ?_
      refine gh_goto (tgt := 3) gd_Facts_isEmptyRow_58 (by decide) ?_
      refine gh_pick (L2 := [(0, 2, 20), (1, 0, v1), (3, 0, v3), (4, 0, v4 + 1)]) [1, 2, 3, 0] rfl ?_
      exact hK3 (v4 + 1) hF h
    obtain ⟨hA, hB⟩ := h
    have k781 : (¬ (v4 = v3) ∧ ((v5 = (-1)) ∨ ((gh_iand_f (gh_ishr_f (m 20 1) v5) 1) = 0))) → gh_T E (gh_yFacts_isEmptyRow.cls, prog_4_method_5_code, 6, false, 8) (d + 2) 53 [(5, 0, v5), (0, 2, 20), (1, 0, v1), (3, 0, v3), (4, 0, v4)] [] m (fun r m1 => m1 = m ∧ Q r) := by
      intro c
      have h := hA c
      refine gh_iconst gd_Facts_isEmptyRow_53 (gh_r0 rfl) ?_
      exact gh_ret8 rfl gd_Facts_isEmptyRow_54 (by decide) ⟨rfl, h⟩
    have k782 : ¬ (¬ (v4 = v3) ∧ ((v5 = (-1)) ∨ ((gh_iand_f (gh_ishr_f (m 20 1) v5) 1) = 0))) → gh_T E (gh_yFacts_isEmptyRow.cls, prog_4_method_5_code, 6, false, 8) (d + 2) 55 [(5, 0, v5), (0, 2, 20), (1, 0, v1), (3, 0, v3), (4, 0, v4)] [] m (fun r m1 => m1 = m ∧ Q r) := by
      intro c
      have h := hB c
      refine gh_pick (L2 := [(0, 2, 20), (1, 0, v1), (3, 0, v3), (4, 0, v4)]) [1, 2, 3, 4] rfl ?_
      exact hJ55 hF h
    refine gh_jeq (tgt := 55) gd_Facts_isEmptyRow_32 (by decide) (fun c783 => ?_) (fun c783 => ?_)
    · have hz : True := trivial
      exact k782 (fun z => z.1 c783)
    · have hz : True := trivial
      refine gh_iload gd_Facts_isEmptyRow_35 0 rfl ?_
      refine gh_iconst gd_Facts_isEmptyRow_37 (gh_r0 rfl) ?_
      refine gh_jeq (tgt := 53) gd_Facts_isEmptyRow_38 (by decide) (fun c784 => ?_) (fun c784 => ?_)
      · have hz : True := trivial
        exact k781 ⟨c783, (Or.inl c784)⟩
      · have hz : True := trivial
        refine gh_aload_n gd_Facts_isEmptyRow_41 1 rfl (by decide) ?_
        refine gf_20_1 gd_Facts_isEmptyRow_42 gh_k321 hF rfl ?_
        refine gh_iload gd_Facts_isEmptyRow_45 0 rfl ?_
        refine gh_ishr gd_Facts_isEmptyRow_47 ?_
        refine gh_iconst gd_Facts_isEmptyRow_48 (gh_r0 rfl) ?_
        refine gh_iand gd_Facts_isEmptyRow_49 ?_
        refine gh_zne (tgt := 55) gd_Facts_isEmptyRow_50 (by decide) (fun c785 => ?_) (fun c785 => ?_)
        · have hz : True := trivial
          exact k781 ⟨c783, (Or.inr c785)⟩
        · have hz : True := trivial
          exact k782 (fun z => (fun z => z.elim c784 c785) z.2)
  · have h := hB c778
    refine gh_iconst gd_Facts_isEmptyRow_61 (gh_r0 rfl) ?_
    exact gh_ret8 rfl gd_Facts_isEmptyRow_62 (by decide) ⟨rfl, h⟩
theorem s_Facts_isEmptyRow {E : gh_E} {m : gh_M} {Q : Int → Prop} (d : Nat) (v1 : Int) (v2 : Int) (v3 : Int) (hF : gh_F m) (h : w_Facts_isEmptyRow v1 v2 v3 m Q) : gh_C E gh_yFacts_isEmptyRow prog_4_method_5_code 6 (some .boolean) 8 (d + 2) [(2, 20), (0, v1), (0, v2), (0, v3)] m (fun r m1 => m1 = m ∧ Q r) := by
  refine gh_enter2 (L := [(0, 2, 20), (1, 0, v1), (2, 0, v2), (3, 0, v3)]) (by decide +kernel) gh_rt8 (Nat.le_of_ble_eq_true rfl) rfl rfl ?_
  unfold w_Facts_isEmptyRow at h
  refine gh_iload_n gd_Facts_isEmptyRow_0 2 rfl ?_
  refine gh_istore (L2 := [(4, 0, v2), (0, 2, 20), (1, 0, v1), (2, 0, v2), (3, 0, v3)]) gd_Facts_isEmptyRow_1 (by decide) rfl ?_
  refine gh_pick (L2 := [(0, 2, 20), (1, 0, v1), (3, 0, v3), (4, 0, v2)]) [1, 2, 4, 0] rfl ?_
  exact gh_L1_sound (T := fun v4 => gh_T E (gh_yFacts_isEmptyRow.cls, prog_4_method_5_code, 6, false, 8) (d + 2) 3 [(0, 2, 20), (1, 0, v1), (3, 0, v3), (4, 0, v4)] [] m (fun r m1 => m1 = m ∧ Q r)) (fun _ => gh_F m) (fun K3 v4 hK hF h => b_Facts_isEmptyRow_3 d hK v4 hF h) v2 hF h
def f_Facts_findEmpty_20 (v1 : Int) (K7 : Int → gh_M → Prop) (K20 : Int → gh_M → Prop) (v2 : Int) (m : gh_M) : Prop := ((v2 < (m 13 2) → w_Facts_isEmptyRow v2 0 (-1) m (fun r788 => ∃ J61 : gh_M → Prop, (∀ (m : gh_M), J61 m → gh_i (v2 + 1) ∧ K20 (v2 + 1) m) ∧ ((r788 = 0 → J61 m) ∧ (¬ (r788 = 0) → 0 ≤ v2 ∧ v2 < 20 ∧ J61 (gh_u m 20 1 (gh_ior_f (m 20 1) (gh_ishl_f 1 (m 16 v2)))))))) ∧ (¬ (v2 < (m 13 2)) → gh_i (v1 + 1) ∧ K7 (v1 + 1) m))
def f_Facts_findEmpty_7 (Q : Int → gh_M → Prop) (K7 : Int → gh_M → Prop) (v1 : Int) (m : gh_M) : Prop := ((v1 < (m 13 1) → gh_M1 (fun K20 v2 m => f_Facts_findEmpty_20 v1 K7 K20 v2 m) 0 m) ∧ (¬ (v1 < (m 13 1)) → Q 0 m))
def w_Facts_findEmpty (m : gh_M) (Q : Int → gh_M → Prop) : Prop := gh_M1 (fun K7 v1 m => f_Facts_findEmpty_7 Q K7 v1 m) 0 (gh_u m 20 1 0)
theorem b_Facts_findEmpty_20 {E : gh_E} {v1 : Int} {K7 : Int → gh_M → Prop} {Q : Int → gh_M → Prop} {K20 : Int → gh_M → Prop} (d : Nat) (hK7 : ∀ (v1 : Int) (m : gh_M), gh_F m → K7 v1 m → gh_T E (gh_yFacts_findEmpty.cls, prog_4_method_4_code, 3, false, 9) (d + 3) 7 [(0, 2, 20), (1, 0, v1)] [] m (fun r m1 => gh_F m1 ∧ Q r m1)) (hK : ∀ (v2 : Int) (m : gh_M), gh_F m → K20 v2 m → gh_T E (gh_yFacts_findEmpty.cls, prog_4_method_4_code, 3, false, 9) (d + 3) 20 [(0, 2, 20), (1, 0, v1), (2, 0, v2)] [] m (fun r m1 => gh_F m1 ∧ Q r m1)) (v2 : Int) (m : gh_M) (hF : gh_F m) (h : f_Facts_findEmpty_20 v1 K7 K20 v2 m) : gh_T E (gh_yFacts_findEmpty.cls, prog_4_method_4_code, 3, false, 9) (d + 3) 20 [(0, 2, 20), (1, 0, v1), (2, 0, v2)] [] m (fun r m1 => gh_F m1 ∧ Q r m1) := by
  have hK20 := hK
  unfold f_Facts_findEmpty_20 at h
  refine gh_iload_n gd_Facts_findEmpty_20 2 rfl ?_
  refine gh_aload_n gd_Facts_findEmpty_21 0 rfl (by decide) ?_
  refine gf_20_0 gd_Facts_findEmpty_22 gh_k319 hF ?_
  refine gf_13_2 gd_Facts_findEmpty_25 gh_k265 hF rfl ?_
  obtain ⟨hA, hB⟩ := h
  refine gh_jge (tgt := 67) gd_Facts_findEmpty_28 (by decide) (fun c787 => ?_) (fun c787 => ?_)
  · have h := hA c787
    refine gh_aload_n gd_Facts_findEmpty_31 0 rfl (by decide) ?_
    refine gh_iload_n gd_Facts_findEmpty_32 2 rfl ?_
    refine gh_iconst gd_Facts_findEmpty_33 (gh_r0 rfl) ?_
    refine gh_iconst gd_Facts_findEmpty_34 (gh_r0 rfl) ?_
    refine cv_Facts_isEmptyRow (d := d + 2) gd_Facts_findEmpty_35 gh_k865 hF (Nat.le_of_ble_eq_true rfl) (gh_C.pw (s_Facts_isEmptyRow d v2 0 (-1) hF h) (fun r788 h => ?_))
    obtain ⟨J61, hJ61, h⟩ := h
    have hJ61 : ∀ (m : gh_M), gh_F m → J61 m → gh_T E (gh_yFacts_findEmpty.cls, prog_4_method_4_code, 3, false, 9) (d + 3) 61 [(0, 2, 20), (1, 0, v1), (2, 0, v2)] [] m (fun r m1 => gh_F m1 ∧ Q r m1) := by
      intro m hF hj
      have h := hJ61 m hj
      obtain ⟨q790, h⟩ := h
      refine gh_iinc (L2 := [(2, 0, v2 + 1), (0, 2, 20), (1, 0, v1)]) gd_Facts_findEmpty_61 2 rfl q790 (by decide) rfl ?_
      refine gh_goto (tgt := 20) gd_Facts_findEmpty_64 (by decide) ?_
      refine gh_pick (L2 := [(0, 2, 20), (1, 0, v1), (2, 0, v2 + 1)]) [1, 2, 0] rfl ?_
      exact hK20 (v2 + 1) m hF h
    obtain ⟨hA, hB⟩ := h
    refine gh_zeq (tgt := 61) gd_Facts_findEmpty_38 (by decide) (fun c791 => ?_) (fun c791 => ?_)
    · have h := hA c791
      exact hJ61 m hF h
    · have h := hB c791
      refine gh_aload_n gd_Facts_findEmpty_41 0 rfl (by decide) ?_
      refine gh_dup gd_Facts_findEmpty_42 (by decide) ?_
      refine gf_20_1 gd_Facts_findEmpty_43 gh_k321 hF rfl ?_
      refine gh_iconst gd_Facts_findEmpty_46 (gh_r0 rfl) ?_
      refine gh_aload_n gd_Facts_findEmpty_47 0 rfl (by decide) ?_
      refine gf_20_0 gd_Facts_findEmpty_48 gh_k319 hF ?_
      refine gf_13_5 gd_Facts_findEmpty_51 gh_k280 hF ?_
      refine gh_iload_n gd_Facts_findEmpty_54 2 rfl ?_
      obtain ⟨q792, h⟩ := h
      obtain ⟨q793, h⟩ := h
      refine la_16 gd_Facts_findEmpty_55 hF q792 q793 rfl ?_
      refine gh_ishl gd_Facts_findEmpty_56 ?_
      refine gh_ior gd_Facts_findEmpty_57 ?_
      refine pf_20_1 gd_Facts_findEmpty_58 gh_k321 hF (fun hF => ?_)
      exact hJ61 (gh_u m 20 1 (gh_ior_f (m 20 1) (gh_ishl_f 1 (m 16 v2)))) hF h
  · have h := hB c787
    obtain ⟨q794, h⟩ := h
    refine gh_iinc (L2 := [(1, 0, v1 + 1), (0, 2, 20), (2, 0, v2)]) gd_Facts_findEmpty_67 1 rfl q794 (by decide) rfl ?_
    refine gh_goto (tgt := 7) gd_Facts_findEmpty_70 (by decide) ?_
    refine gh_pick (L2 := [(0, 2, 20), (1, 0, v1 + 1)]) [1, 0] rfl ?_
    exact hK7 (v1 + 1) m hF h
theorem b_Facts_findEmpty_7 {E : gh_E} {Q : Int → gh_M → Prop} {K7 : Int → gh_M → Prop} (d : Nat) (hK : ∀ (v1 : Int) (m : gh_M), gh_F m → K7 v1 m → gh_T E (gh_yFacts_findEmpty.cls, prog_4_method_4_code, 3, false, 9) (d + 3) 7 [(0, 2, 20), (1, 0, v1)] [] m (fun r m1 => gh_F m1 ∧ Q r m1)) (v1 : Int) (m : gh_M) (hF : gh_F m) (h : f_Facts_findEmpty_7 Q K7 v1 m) : gh_T E (gh_yFacts_findEmpty.cls, prog_4_method_4_code, 3, false, 9) (d + 3) 7 [(0, 2, 20), (1, 0, v1)] [] m (fun r m1 => gh_F m1 ∧ Q r m1) := by
  have hK7 := hK
  unfold f_Facts_findEmpty_7 at h
  refine gh_iload_n gd_Facts_findEmpty_7 1 rfl ?_
  refine gh_aload_n gd_Facts_findEmpty_8 0 rfl (by decide) ?_
  refine gf_20_0 gd_Facts_findEmpty_9 gh_k319 hF ?_
  refine gf_13_1 gd_Facts_findEmpty_12 gh_k258 hF rfl ?_
  obtain ⟨hA, hB⟩ := h
  refine gh_jge (tgt := 73) gd_Facts_findEmpty_15 (by decide) (fun c786 => ?_) (fun c786 => ?_)
  · have h := hA c786
    refine gh_iconst gd_Facts_findEmpty_18 (gh_r0 rfl) ?_
    refine gh_istore_n (L2 := [(2, 0, 0), (0, 2, 20), (1, 0, v1)]) gd_Facts_findEmpty_19 (by decide) rfl ?_
    refine gh_pick (L2 := [(0, 2, 20), (1, 0, v1), (2, 0, 0)]) [1, 2, 0] rfl ?_
    exact gh_M1_sound (T := fun v2 m => gh_T E (gh_yFacts_findEmpty.cls, prog_4_method_4_code, 3, false, 9) (d + 3) 20 [(0, 2, 20), (1, 0, v1), (2, 0, v2)] [] m (fun r m1 => gh_F m1 ∧ Q r m1)) (fun _ m => gh_F m) (fun K20 v2 m hK hF h => b_Facts_findEmpty_20 d hK7 hK v2 m hF h) 0 m hF h
  · have h := hB c786
    exact gh_ret9 rfl gd_Facts_findEmpty_73 ⟨hF, h⟩
theorem s_Facts_findEmpty {E : gh_E} {m : gh_M} {Q : Int → gh_M → Prop} (d : Nat) (hF : gh_F m) (h : w_Facts_findEmpty m Q) : gh_C E gh_yFacts_findEmpty prog_4_method_4_code 3 none 9 (d + 3) [(2, 20)] m (fun r m1 => gh_F m1 ∧ Q r m1) := by
  refine gh_enter2 (L := [(0, 2, 20)]) (by decide +kernel) gh_rt9 (Nat.le_of_ble_eq_true rfl) rfl rfl ?_
  unfold w_Facts_findEmpty at h
  refine gh_aload_n gd_Facts_findEmpty_0 0 rfl (by decide) ?_
  refine gh_iconst gd_Facts_findEmpty_1 (gh_r0 rfl) ?_
  refine pf_20_1 gd_Facts_findEmpty_2 gh_k321 hF (fun hF => ?_)
  refine gh_iconst gd_Facts_findEmpty_5 (gh_r0 rfl) ?_
  refine gh_istore_n (L2 := [(1, 0, 0), (0, 2, 20)]) gd_Facts_findEmpty_6 (by decide) rfl ?_
  refine gh_pick (L2 := [(0, 2, 20), (1, 0, 0)]) [1, 0] rfl ?_
  exact gh_M1_sound (T := fun v1 m => gh_T E (gh_yFacts_findEmpty.cls, prog_4_method_4_code, 3, false, 9) (d + 3) 7 [(0, 2, 20), (1, 0, v1)] [] m (fun r m1 => gh_F m1 ∧ Q r m1)) (fun _ m => gh_F m) (fun K7 v1 m hK hF h => b_Facts_findEmpty_7 d hK v1 m hF h) 0 (gh_u m 20 1 0) hF h
def f_Facts_leastOfRow_5 (v1 : Int) (Q : Int → Prop) (m : gh_M) (K5 : Int → Int → Prop) (v3 : Int) (v4 : Int) : Prop := 0 ≤ v1 ∧ v1 < 20 ∧ ((v4 < (m 17 v1) → k_Grammar_nameAt v1 v4 m ∧ ∀ v5 : Int, v5 = x_Grammar_nameAt v1 v4 m → ((¬ (v5 = (-1)) → (0 ≤ v5 ∧ v5 < 8))) ∧ gh_i (v3 + (if v5 = (-1) then 1 else (m 21 v5))) ∧ ∀ v3' : Int, v3' = v3 + (if v5 = (-1) then 1 else (m 21 v5)) → gh_i (v4 + 1) ∧ K5 v3' (v4 + 1)) ∧ (¬ (v4 < (m 17 v1)) → Q (min v3 16777216)))
def w_Facts_leastOfRow (v1 : Int) (v2 : Int) (m : gh_M) (Q : Int → Prop) : Prop := gh_L2 (fun K5 v3 v4 => f_Facts_leastOfRow_5 v1 Q m K5 v3 v4) 0 v2
theorem b_Facts_leastOfRow_5 {E : gh_E} {v1 : Int} {Q : Int → Prop} {K5 : Int → Int → Prop} (d : Nat) {m : gh_M} (hK : ∀ (v3 : Int) (v4 : Int), gh_F m → K5 v3 v4 → gh_T E (gh_yFacts_leastOfRow.cls, prog_4_method_7_code, 6, false, 0) (d + 2) 5 [(0, 2, 20), (1, 0, v1), (3, 0, v3), (4, 0, v4)] [] m (fun r m1 => m1 = m ∧ Q r)) (v3 : Int) (v4 : Int) (hF : gh_F m) (h : f_Facts_leastOfRow_5 v1 Q m K5 v3 v4) : gh_T E (gh_yFacts_leastOfRow.cls, prog_4_method_7_code, 6, false, 0) (d + 2) 5 [(0, 2, 20), (1, 0, v1), (3, 0, v3), (4, 0, v4)] [] m (fun r m1 => m1 = m ∧ Q r) := by
  have hK5 := hK
  unfold f_Facts_leastOfRow_5 at h
  refine gh_iload gd_Facts_leastOfRow_5 3 rfl ?_
  refine gh_aload_n gd_Facts_leastOfRow_7 0 rfl (by decide) ?_
  refine gf_20_0 gd_Facts_leastOfRow_8 gh_k319 hF ?_
  refine gf_13_6 gd_Facts_leastOfRow_11 gh_k285 hF ?_
  refine gh_iload_n gd_Facts_leastOfRow_14 1 rfl ?_
  obtain ⟨q795, h⟩ := h
  obtain ⟨q796, h⟩ := h
  refine la_17 gd_Facts_leastOfRow_15 hF q795 q796 rfl ?_
  obtain ⟨hA, hB⟩ := h
  refine gh_jge (tgt := 57) gd_Facts_leastOfRow_16 (by decide) (fun c797 => ?_) (fun c797 => ?_)
  · have h := hA c797
    refine gh_aload_n gd_Facts_leastOfRow_19 0 rfl (by decide) ?_
    refine gf_20_0 gd_Facts_leastOfRow_20 gh_k319 hF ?_
    refine gh_iload_n gd_Facts_leastOfRow_23 1 rfl ?_
    refine gh_iload gd_Facts_leastOfRow_24 3 rfl ?_
    obtain ⟨q798, h⟩ := h
    refine cv_Grammar_nameAt (d := d + 1) gd_Facts_leastOfRow_26 gh_k869 hF (Nat.le_of_ble_eq_true rfl) (gh_C.pe (e_Grammar_nameAt d v1 v4 hF q798) ?_)
    refine gh_name (fun v5 hn => ?_)
    have h := h v5 hn
    refine gh_istore (L2 := [(5, 0, v5), (0, 2, 20), (1, 0, v1), (3, 0, v3), (4, 0, v4)]) gd_Facts_leastOfRow_29 (by decide) rfl ?_
    refine gh_iload_n gd_Facts_leastOfRow_31 3 rfl ?_
    refine gh_iload gd_Facts_leastOfRow_32 0 rfl ?_
    refine gh_iconst gd_Facts_leastOfRow_34 (gh_r0 rfl) ?_
    obtain ⟨hk, h⟩ := h
    have k801 : ∀ x802 : Int, x802 = (if v5 = (-1) then 1 else (m 21 v5)) → gh_T E (gh_yFacts_leastOfRow.cls, prog_4_method_7_code, 6, false, 0) (d + 2) 49 [(5, 0, v5), (0, 2, 20), (1, 0, v1), (3, 0, v3), (4, 0, v4)] [(0, x802), (0, v3)] m (fun r m1 => m1 = m ∧ Q r) := by
      rintro _ rfl
      obtain ⟨q803, h⟩ := h
      refine gh_iadd gd_Facts_leastOfRow_49 q803 ?_
      refine gh_name (fun v3' hn => ?_)
      have h := h v3' hn
      refine gh_istore_n (L2 := [(3, 0, v3'), (5, 0, v5), (0, 2, 20), (1, 0, v1), (4, 0, v4)]) gd_Facts_leastOfRow_50 (by decide) rfl ?_
      obtain ⟨q804, h⟩ := h
      refine gh_iinc (L2 := [(4, 0, v4 + 1), (3, 0, v3'), (5, 0, v5), (0, 2, 20), (1, 0, v1)]) gd_Facts_leastOfRow_51 4 rfl q804 (by decide) rfl ?_
      refine gh_goto (tgt := 5) gd_Facts_leastOfRow_54 (by decide) ?_
      refine gh_pick (L2 := [(0, 2, 20), (1, 0, v1), (3, 0, v3'), (4, 0, v4 + 1)]) [3, 4, 1, 0] rfl ?_
      exact hK5 v3' (v4 + 1) hF h
    refine gh_jne (tgt := 42) gd_Facts_leastOfRow_35 (by decide) (fun c805 => ?_) (fun c805 => ?_)
    · have hz : True := trivial
      refine gh_iconst gd_Facts_leastOfRow_38 (gh_r0 rfl) ?_
      refine gh_goto (tgt := 49) gd_Facts_leastOfRow_39 (by decide) ?_
      exact k801 _ (by rw [if_pos c805])
    · have hz : True := trivial
      have hk := hk c805
      refine gh_aload_n gd_Facts_leastOfRow_42 1 rfl (by decide) ?_
      refine gf_20_6 gd_Facts_leastOfRow_43 gh_k334 hF ?_
      refine gh_iload gd_Facts_leastOfRow_46 0 rfl ?_
      obtain ⟨q799, hk⟩ := hk
      have q800 := hk
      refine la_21 gd_Facts_leastOfRow_48 hF q799 q800 rfl ?_
      exact k801 _ (by rw [if_neg c805])
  · have h := hB c797
    refine gh_iload_n gd_Facts_leastOfRow_57 2 rfl ?_
    refine gh_ldc (n := 16777216) gd_Facts_leastOfRow_58 gh_k885 (by decide) (gh_r0 rfl) ?_
    refine gh_pr_min gd_Facts_leastOfRow_60 gh_k893 (Nat.le_of_ble_eq_true rfl) ?_
    exact gh_ret0 rfl gd_Facts_leastOfRow_63 ⟨rfl, h⟩
theorem s_Facts_leastOfRow {E : gh_E} {m : gh_M} {Q : Int → Prop} (d : Nat) (v1 : Int) (v2 : Int) (hF : gh_F m) (h : w_Facts_leastOfRow v1 v2 m Q) : gh_C E gh_yFacts_leastOfRow prog_4_method_7_code 6 (some .int) 0 (d + 2) [(2, 20), (0, v1), (0, v2)] m (fun r m1 => m1 = m ∧ Q r) := by
  refine gh_enter2 (L := [(0, 2, 20), (1, 0, v1), (2, 0, v2)]) (by decide +kernel) gh_rt0 (Nat.le_of_ble_eq_true rfl) rfl rfl ?_
  unfold w_Facts_leastOfRow at h
  refine gh_iconst gd_Facts_leastOfRow_0 (gh_r0 rfl) ?_
  refine gh_istore_n (L2 := [(3, 0, 0), (0, 2, 20), (1, 0, v1), (2, 0, v2)]) gd_Facts_leastOfRow_1 (by decide) rfl ?_
  refine gh_iload_n gd_Facts_leastOfRow_2 3 rfl ?_
  refine gh_istore (L2 := [(4, 0, v2), (3, 0, 0), (0, 2, 20), (1, 0, v1), (2, 0, v2)]) gd_Facts_leastOfRow_3 (by decide) rfl ?_
  refine gh_pick (L2 := [(0, 2, 20), (1, 0, v1), (3, 0, 0), (4, 0, v2)]) [2, 3, 1, 0] rfl ?_
  exact gh_L2_sound (T := fun v3 v4 => gh_T E (gh_yFacts_leastOfRow.cls, prog_4_method_7_code, 6, false, 0) (d + 2) 5 [(0, 2, 20), (1, 0, v1), (3, 0, v3), (4, 0, v4)] [] m (fun r m1 => m1 = m ∧ Q r)) (fun _ _ => gh_F m) (fun K5 v3 v4 hK hF h => b_Facts_leastOfRow_5 d hK v3 v4 hF h) 0 v2 hF h
def f_Facts_findLeast_24 (v1 : Int) (K11 : Int → gh_M → Prop) (K24 : Int → gh_M → Prop) (v2 : Int) (m : gh_M) : Prop := ((v2 < (m 13 2) → 0 ≤ v2 ∧ v2 < 20 ∧ ∀ v3 : Int, v3 = m 16 v2 → 0 ≤ v3 ∧ v3 < 8 ∧ w_Facts_leastOfRow v2 0 m (fun r812 => 0 ≤ v3 ∧ v3 < 8 ∧ gh_i (v2 + 1) ∧ K24 (v2 + 1) (gh_u m 21 v3 (min (m 21 v3) r812)))) ∧ (¬ (v2 < (m 13 2)) → gh_i (v1 + 1) ∧ K11 (v1 + 1) m))
def f_Facts_findLeast_85 (Q : Int → gh_M → Prop) (K85 : Int → gh_M → Prop) (v1 : Int) (m : gh_M) : Prop := ((v1 < (m 13 1) → 0 ≤ v1 ∧ v1 < 8 ∧ ∃ J119 : gh_M → Prop, (∀ (m : gh_M), J119 m → gh_i (v1 + 1) ∧ K85 (v1 + 1) m) ∧ (((m 21 v1) < 16777216 → J119 (gh_u m 20 2 (gh_ior_f (m 20 2) (gh_ishl_f 1 v1)))) ∧ (¬ ((m 21 v1) < 16777216) → J119 m))) ∧ (¬ (v1 < (m 13 1)) → Q 0 m))
def f_Facts_findLeast_11 (Q : Int → gh_M → Prop) (K11 : Int → gh_M → Prop) (v1 : Int) (m : gh_M) : Prop := ((v1 < (m 13 1) → gh_M1 (fun K24 v2 m => f_Facts_findLeast_24 v1 K11 K24 v2 m) 0 m) ∧ (¬ (v1 < (m 13 1)) → gh_M1 (fun K85 v1 m => f_Facts_findLeast_85 Q K85 v1 m) 0 (gh_u m 20 2 0)))
def w_Facts_findLeast (m : gh_M) (Q : Int → gh_M → Prop) : Prop := gh_M1 (fun K11 v1 m => f_Facts_findLeast_11 Q K11 v1 m) 0 (gh_fil m 21 8 16777216)
theorem b_Facts_findLeast_24 {E : gh_E} {v1 : Int} {K11 : Int → gh_M → Prop} {Q : Int → gh_M → Prop} {K24 : Int → gh_M → Prop} (d : Nat) (hK11 : ∀ (v1 : Int) (m : gh_M), gh_F m → K11 v1 m → gh_T E (gh_yFacts_findLeast.cls, prog_4_method_6_code, 4, false, 9) (d + 3) 11 [(0, 2, 20), (1, 0, v1)] [] m (fun r m1 => gh_F m1 ∧ Q r m1)) (hK : ∀ (v2 : Int) (m : gh_M), gh_F m → K24 v2 m → gh_T E (gh_yFacts_findLeast.cls, prog_4_method_6_code, 4, false, 9) (d + 3) 24 [(0, 2, 20), (1, 0, v1), (2, 0, v2)] [] m (fun r m1 => gh_F m1 ∧ Q r m1)) (v2 : Int) (m : gh_M) (hF : gh_F m) (h : f_Facts_findLeast_24 v1 K11 K24 v2 m) : gh_T E (gh_yFacts_findLeast.cls, prog_4_method_6_code, 4, false, 9) (d + 3) 24 [(0, 2, 20), (1, 0, v1), (2, 0, v2)] [] m (fun r m1 => gh_F m1 ∧ Q r m1) := by
  have hK24 := hK
  unfold f_Facts_findLeast_24 at h
  refine gh_iload_n gd_Facts_findLeast_24 2 rfl ?_
  refine gh_aload_n gd_Facts_findLeast_25 0 rfl (by decide) ?_
  refine gf_20_0 gd_Facts_findLeast_26 gh_k319 hF ?_
  refine gf_13_2 gd_Facts_findLeast_29 gh_k265 hF rfl ?_
  obtain ⟨hA, hB⟩ := h
  refine gh_jge (tgt := 72) gd_Facts_findLeast_32 (by decide) (fun c807 => ?_) (fun c807 => ?_)
  · have h := hA c807
    refine gh_aload_n gd_Facts_findLeast_35 0 rfl (by decide) ?_
    refine gf_20_0 gd_Facts_findLeast_36 gh_k319 hF ?_
    refine gf_13_5 gd_Facts_findLeast_39 gh_k280 hF ?_
    refine gh_iload_n gd_Facts_findLeast_42 2 rfl ?_
    obtain ⟨q808, h⟩ := h
    obtain ⟨q809, h⟩ := h
    refine la_16 gd_Facts_findLeast_43 hF q808 q809 rfl ?_
    refine gh_name (fun v3 hn => ?_)
    have h := h v3 hn
    refine gh_istore_n (L2 := [(3, 0, v3), (0, 2, 20), (1, 0, v1), (2, 0, v2)]) gd_Facts_findLeast_44 (by decide) rfl ?_
    refine gh_aload_n gd_Facts_findLeast_45 1 rfl (by decide) ?_
    refine gf_20_6 gd_Facts_findLeast_46 gh_k334 hF ?_
    refine gh_iload_n gd_Facts_findLeast_49 0 rfl ?_
    refine gh_aload_n gd_Facts_findLeast_50 1 rfl (by decide) ?_
    refine gf_20_6 gd_Facts_findLeast_51 gh_k334 hF ?_
    refine gh_iload_n gd_Facts_findLeast_54 0 rfl ?_
    obtain ⟨q810, h⟩ := h
    obtain ⟨q811, h⟩ := h
    refine la_21 gd_Facts_findLeast_55 hF q810 q811 rfl ?_
    refine gh_aload_n gd_Facts_findLeast_56 1 rfl (by decide) ?_
    refine gh_iload_n gd_Facts_findLeast_57 3 rfl ?_
    refine gh_iconst gd_Facts_findLeast_58 (gh_r0 rfl) ?_
    refine cv_Facts_leastOfRow (d := d + 2) gd_Facts_findLeast_59 gh_k889 hF (Nat.le_of_ble_eq_true rfl) (gh_C.pw (s_Facts_leastOfRow d v2 0 hF h) (fun r812 h => ?_))
    refine gh_pr_min gd_Facts_findLeast_62 gh_k893 (Nat.le_of_ble_eq_true rfl) ?_
    obtain ⟨q814, h⟩ := h
    obtain ⟨q815, h⟩ := h
    refine sa_21 gd_Facts_findLeast_65 hF q814 q815 (fun hF => ?_)
    obtain ⟨q816, h⟩ := h
    refine gh_iinc (L2 := [(2, 0, v2 + 1), (3, 0, v3), (0, 2, 20), (1, 0, v1)]) gd_Facts_findLeast_66 3 rfl q816 (by decide) rfl ?_
    refine gh_goto (tgt := 24) gd_Facts_findLeast_69 (by decide) ?_
    refine gh_pick (L2 := [(0, 2, 20), (1, 0, v1), (2, 0, v2 + 1)]) [2, 3, 0] rfl ?_
    exact hK24 (v2 + 1) (gh_u m 21 v3 (min (m 21 v3) r812)) hF h
  · have h := hB c807
    obtain ⟨q817, h⟩ := h
    refine gh_iinc (L2 := [(1, 0, v1 + 1), (0, 2, 20), (2, 0, v2)]) gd_Facts_findLeast_72 1 rfl q817 (by decide) rfl ?_
    refine gh_goto (tgt := 11) gd_Facts_findLeast_75 (by decide) ?_
    refine gh_pick (L2 := [(0, 2, 20), (1, 0, v1 + 1)]) [1, 0] rfl ?_
    exact hK11 (v1 + 1) m hF h
theorem b_Facts_findLeast_85 {E : gh_E} {Q : Int → gh_M → Prop} {K85 : Int → gh_M → Prop} (d : Nat) (hK : ∀ (v1 : Int) (m : gh_M), gh_F m → K85 v1 m → gh_T E (gh_yFacts_findLeast.cls, prog_4_method_6_code, 4, false, 9) (d + 3) 85 [(0, 2, 20), (1, 0, v1)] [] m (fun r m1 => gh_F m1 ∧ Q r m1)) (v1 : Int) (m : gh_M) (hF : gh_F m) (h : f_Facts_findLeast_85 Q K85 v1 m) : gh_T E (gh_yFacts_findLeast.cls, prog_4_method_6_code, 4, false, 9) (d + 3) 85 [(0, 2, 20), (1, 0, v1)] [] m (fun r m1 => gh_F m1 ∧ Q r m1) := by
  have hK85 := hK
  unfold f_Facts_findLeast_85 at h
  refine gh_iload_n gd_Facts_findLeast_85 1 rfl ?_
  refine gh_aload_n gd_Facts_findLeast_86 0 rfl (by decide) ?_
  refine gf_20_0 gd_Facts_findLeast_87 gh_k319 hF ?_
  refine gf_13_1 gd_Facts_findLeast_90 gh_k258 hF rfl ?_
  obtain ⟨hA, hB⟩ := h
  refine gh_jge (tgt := 125) gd_Facts_findLeast_93 (by decide) (fun c818 => ?_) (fun c818 => ?_)
  · have h := hA c818
    refine gh_aload_n gd_Facts_findLeast_96 0 rfl (by decide) ?_
    refine gf_20_6 gd_Facts_findLeast_97 gh_k334 hF ?_
    refine gh_iload_n gd_Facts_findLeast_100 1 rfl ?_
    obtain ⟨q819, h⟩ := h
    obtain ⟨q820, h⟩ := h
    refine la_21 gd_Facts_findLeast_101 hF q819 q820 rfl ?_
    refine gh_ldc (n := 16777216) gd_Facts_findLeast_102 gh_k885 (by decide) (gh_r0 rfl) ?_
    obtain ⟨J119, hJ119, h⟩ := h
    have hJ119 : ∀ (m : gh_M), gh_F m → J119 m → gh_T E (gh_yFacts_findLeast.cls, prog_4_method_6_code, 4, false, 9) (d + 3) 119 [(0, 2, 20), (1, 0, v1)] [] m (fun r m1 => gh_F m1 ∧ Q r m1) := by
      intro m hF hj
      have h := hJ119 m hj
      obtain ⟨q821, h⟩ := h
      refine gh_iinc (L2 := [(1, 0, v1 + 1), (0, 2, 20)]) gd_Facts_findLeast_119 1 rfl q821 (by decide) rfl ?_
      refine gh_goto (tgt := 85) gd_Facts_findLeast_122 (by decide) ?_
      refine gh_pick (L2 := [(0, 2, 20), (1, 0, v1 + 1)]) [1, 0] rfl ?_
      exact hK85 (v1 + 1) m hF h
    obtain ⟨hA, hB⟩ := h
    refine gh_jge (tgt := 119) gd_Facts_findLeast_104 (by decide) (fun c822 => ?_) (fun c822 => ?_)
    · have h := hA c822
      refine gh_aload_n gd_Facts_findLeast_107 0 rfl (by decide) ?_
      refine gh_dup gd_Facts_findLeast_108 (by decide) ?_
      refine gf_20_2 gd_Facts_findLeast_109 gh_k323 hF rfl ?_
      refine gh_iconst gd_Facts_findLeast_112 (gh_r0 rfl) ?_
      refine gh_iload_n gd_Facts_findLeast_113 1 rfl ?_
      refine gh_ishl gd_Facts_findLeast_114 ?_
      refine gh_ior gd_Facts_findLeast_115 ?_
      refine pf_20_2 gd_Facts_findLeast_116 gh_k323 hF (fun hF => ?_)
      exact hJ119 (gh_u m 20 2 (gh_ior_f (m 20 2) (gh_ishl_f 1 v1))) hF h
    · have h := hB c822
      exact hJ119 m hF h
  · have h := hB c818
    exact gh_ret9 rfl gd_Facts_findLeast_125 ⟨hF, h⟩
theorem b_Facts_findLeast_11 {E : gh_E} {Q : Int → gh_M → Prop} {K11 : Int → gh_M → Prop} (d : Nat) (hK : ∀ (v1 : Int) (m : gh_M), gh_F m → K11 v1 m → gh_T E (gh_yFacts_findLeast.cls, prog_4_method_6_code, 4, false, 9) (d + 3) 11 [(0, 2, 20), (1, 0, v1)] [] m (fun r m1 => gh_F m1 ∧ Q r m1)) (v1 : Int) (m : gh_M) (hF : gh_F m) (h : f_Facts_findLeast_11 Q K11 v1 m) : gh_T E (gh_yFacts_findLeast.cls, prog_4_method_6_code, 4, false, 9) (d + 3) 11 [(0, 2, 20), (1, 0, v1)] [] m (fun r m1 => gh_F m1 ∧ Q r m1) := by
  have hK11 := hK
  unfold f_Facts_findLeast_11 at h
  refine gh_iload_n gd_Facts_findLeast_11 1 rfl ?_
  refine gh_aload_n gd_Facts_findLeast_12 0 rfl (by decide) ?_
  refine gf_20_0 gd_Facts_findLeast_13 gh_k319 hF ?_
  refine gf_13_1 gd_Facts_findLeast_16 gh_k258 hF rfl ?_
  obtain ⟨hA, hB⟩ := h
  refine gh_jge (tgt := 78) gd_Facts_findLeast_19 (by decide) (fun c806 => ?_) (fun c806 => ?_)
  · have h := hA c806
    refine gh_iconst gd_Facts_findLeast_22 (gh_r0 rfl) ?_
    refine gh_istore_n (L2 := [(2, 0, 0), (0, 2, 20), (1, 0, v1)]) gd_Facts_findLeast_23 (by decide) rfl ?_
    refine gh_pick (L2 := [(0, 2, 20), (1, 0, v1), (2, 0, 0)]) [1, 2, 0] rfl ?_
    exact gh_M1_sound (T := fun v2 m => gh_T E (gh_yFacts_findLeast.cls, prog_4_method_6_code, 4, false, 9) (d + 3) 24 [(0, 2, 20), (1, 0, v1), (2, 0, v2)] [] m (fun r m1 => gh_F m1 ∧ Q r m1)) (fun _ m => gh_F m) (fun K24 v2 m hK hF h => b_Facts_findLeast_24 d hK11 hK v2 m hF h) 0 m hF h
  · have h := hB c806
    refine gh_aload_n gd_Facts_findLeast_78 0 rfl (by decide) ?_
    refine gh_iconst gd_Facts_findLeast_79 (gh_r0 rfl) ?_
    refine pf_20_2 gd_Facts_findLeast_80 gh_k323 hF (fun hF => ?_)
    refine gh_iconst gd_Facts_findLeast_83 (gh_r0 rfl) ?_
    refine gh_istore_n (L2 := [(1, 0, 0), (0, 2, 20)]) gd_Facts_findLeast_84 (by decide) rfl ?_
    refine gh_pick (L2 := [(0, 2, 20), (1, 0, 0)]) [1, 0] rfl ?_
    exact gh_M1_sound (T := fun v1 m => gh_T E (gh_yFacts_findLeast.cls, prog_4_method_6_code, 4, false, 9) (d + 3) 85 [(0, 2, 20), (1, 0, v1)] [] m (fun r m1 => gh_F m1 ∧ Q r m1)) (fun _ m => gh_F m) (fun K85 v1 m hK hF h => b_Facts_findLeast_85 d hK v1 m hF h) 0 (gh_u m 20 2 0) hF h
theorem s_Facts_findLeast {E : gh_E} {m : gh_M} {Q : Int → gh_M → Prop} (d : Nat) (hF : gh_F m) (h : w_Facts_findLeast m Q) : gh_C E gh_yFacts_findLeast prog_4_method_6_code 4 none 9 (d + 3) [(2, 20)] m (fun r m1 => gh_F m1 ∧ Q r m1) := by
  refine gh_enter2 (L := [(0, 2, 20)]) (by decide +kernel) gh_rt9 (Nat.le_of_ble_eq_true rfl) rfl rfl ?_
  unfold w_Facts_findLeast at h
  refine gh_aload_n gd_Facts_findLeast_0 0 rfl (by decide) ?_
  refine gf_20_6 gd_Facts_findLeast_1 gh_k334 hF ?_
  refine gh_ldc (n := 16777216) gd_Facts_findLeast_4 gh_k885 (by decide) (gh_r0 rfl) ?_
  refine gh_fillF (d := d + 2) gd_Facts_findLeast_6 gh_k886 (ga_21 hF) (Nat.le_of_ble_eq_true rfl) hF gn_21 (by decide) (fun hF => ?_)
  refine gh_iconst gd_Facts_findLeast_9 (gh_r0 rfl) ?_
  refine gh_istore_n (L2 := [(1, 0, 0), (0, 2, 20)]) gd_Facts_findLeast_10 (by decide) rfl ?_
  refine gh_pick (L2 := [(0, 2, 20), (1, 0, 0)]) [1, 0] rfl ?_
  exact gh_M1_sound (T := fun v1 m => gh_T E (gh_yFacts_findLeast.cls, prog_4_method_6_code, 4, false, 9) (d + 3) 11 [(0, 2, 20), (1, 0, v1)] [] m (fun r m1 => gh_F m1 ∧ Q r m1)) (fun _ m => gh_F m) (fun K11 v1 m hK hF h => b_Facts_findLeast_11 d hK v1 m hF h) 0 (gh_fil m 21 8 16777216) hF h
def f_Facts_findUsefulRules_7 (Q : Int → gh_M → Prop) (K7 : Int → gh_M → Prop) (v1 : Int) (m : gh_M) : Prop := ((v1 < (m 13 2) → w_Facts_leastOfRow v1 0 m (fun r824 => ∃ J41 : gh_M → Prop, (∀ (m : gh_M), J41 m → gh_i (v1 + 1) ∧ K7 (v1 + 1) m) ∧ ((r824 < 16777216 → J41 (gh_u m 20 5 (gh_ior_f (m 20 5) (gh_ishl_f 1 v1)))) ∧ (¬ (r824 < 16777216) → J41 m)))) ∧ (¬ (v1 < (m 13 2)) → Q 0 m))
def w_Facts_findUsefulRules (m : gh_M) (Q : Int → gh_M → Prop) : Prop := gh_M1 (fun K7 v1 m => f_Facts_findUsefulRules_7 Q K7 v1 m) 0 (gh_u m 20 5 0)
theorem b_Facts_findUsefulRules_7 {E : gh_E} {Q : Int → gh_M → Prop} {K7 : Int → gh_M → Prop} (d : Nat) (hK : ∀ (v1 : Int) (m : gh_M), gh_F m → K7 v1 m → gh_T E (gh_yFacts_findUsefulRules.cls, prog_4_method_8_code, 2, false, 9) (d + 3) 7 [(0, 2, 20), (1, 0, v1)] [] m (fun r m1 => gh_F m1 ∧ Q r m1)) (v1 : Int) (m : gh_M) (hF : gh_F m) (h : f_Facts_findUsefulRules_7 Q K7 v1 m) : gh_T E (gh_yFacts_findUsefulRules.cls, prog_4_method_8_code, 2, false, 9) (d + 3) 7 [(0, 2, 20), (1, 0, v1)] [] m (fun r m1 => gh_F m1 ∧ Q r m1) := by
  have hK7 := hK
  unfold f_Facts_findUsefulRules_7 at h
  refine gh_iload_n gd_Facts_findUsefulRules_7 1 rfl ?_
  refine gh_aload_n gd_Facts_findUsefulRules_8 0 rfl (by decide) ?_
  refine gf_20_0 gd_Facts_findUsefulRules_9 gh_k319 hF ?_
  refine gf_13_2 gd_Facts_findUsefulRules_12 gh_k265 hF rfl ?_
  obtain ⟨hA, hB⟩ := h
  refine gh_jge (tgt := 47) gd_Facts_findUsefulRules_15 (by decide) (fun c823 => ?_) (fun c823 => ?_)
  · have h := hA c823
    refine gh_aload_n gd_Facts_findUsefulRules_18 0 rfl (by decide) ?_
    refine gh_iload_n gd_Facts_findUsefulRules_19 1 rfl ?_
    refine gh_iconst gd_Facts_findUsefulRules_20 (gh_r0 rfl) ?_
    refine cv_Facts_leastOfRow (d := d + 2) gd_Facts_findUsefulRules_21 gh_k889 hF (Nat.le_of_ble_eq_true rfl) (gh_C.pw (s_Facts_leastOfRow d v1 0 hF h) (fun r824 h => ?_))
    refine gh_ldc (n := 16777216) gd_Facts_findUsefulRules_24 gh_k885 (by decide) (gh_r0 rfl) ?_
    obtain ⟨J41, hJ41, h⟩ := h
    have hJ41 : ∀ (m : gh_M), gh_F m → J41 m → gh_T E (gh_yFacts_findUsefulRules.cls, prog_4_method_8_code, 2, false, 9) (d + 3) 41 [(0, 2, 20), (1, 0, v1)] [] m (fun r m1 => gh_F m1 ∧ Q r m1) := by
      intro m hF hj
      have h := hJ41 m hj
      obtain ⟨q826, h⟩ := h
      refine gh_iinc (L2 := [(1, 0, v1 + 1), (0, 2, 20)]) gd_Facts_findUsefulRules_41 1 rfl q826 (by decide) rfl ?_
      refine gh_goto (tgt := 7) gd_Facts_findUsefulRules_44 (by decide) ?_
      refine gh_pick (L2 := [(0, 2, 20), (1, 0, v1 + 1)]) [1, 0] rfl ?_
      exact hK7 (v1 + 1) m hF h
    obtain ⟨hA, hB⟩ := h
    refine gh_jge (tgt := 41) gd_Facts_findUsefulRules_26 (by decide) (fun c827 => ?_) (fun c827 => ?_)
    · have h := hA c827
      refine gh_aload_n gd_Facts_findUsefulRules_29 0 rfl (by decide) ?_
      refine gh_dup gd_Facts_findUsefulRules_30 (by decide) ?_
      refine gf_20_5 gd_Facts_findUsefulRules_31 gh_k332 hF rfl ?_
      refine gh_iconst gd_Facts_findUsefulRules_34 (gh_r0 rfl) ?_
      refine gh_iload_n gd_Facts_findUsefulRules_35 1 rfl ?_
      refine gh_ishl gd_Facts_findUsefulRules_36 ?_
      refine gh_ior gd_Facts_findUsefulRules_37 ?_
      refine pf_20_5 gd_Facts_findUsefulRules_38 gh_k332 hF (fun hF => ?_)
      exact hJ41 (gh_u m 20 5 (gh_ior_f (m 20 5) (gh_ishl_f 1 v1))) hF h
    · have h := hB c827
      exact hJ41 m hF h
  · have h := hB c823
    exact gh_ret9 rfl gd_Facts_findUsefulRules_47 ⟨hF, h⟩
theorem s_Facts_findUsefulRules {E : gh_E} {m : gh_M} {Q : Int → gh_M → Prop} (d : Nat) (hF : gh_F m) (h : w_Facts_findUsefulRules m Q) : gh_C E gh_yFacts_findUsefulRules prog_4_method_8_code 2 none 9 (d + 3) [(2, 20)] m (fun r m1 => gh_F m1 ∧ Q r m1) := by
  refine gh_enter2 (L := [(0, 2, 20)]) (by decide +kernel) gh_rt9 (Nat.le_of_ble_eq_true rfl) rfl rfl ?_
  unfold w_Facts_findUsefulRules at h
  refine gh_aload_n gd_Facts_findUsefulRules_0 0 rfl (by decide) ?_
  refine gh_iconst gd_Facts_findUsefulRules_1 (gh_r0 rfl) ?_
  refine pf_20_5 gd_Facts_findUsefulRules_2 gh_k332 hF (fun hF => ?_)
  refine gh_iconst gd_Facts_findUsefulRules_5 (gh_r0 rfl) ?_
  refine gh_istore_n (L2 := [(1, 0, 0), (0, 2, 20)]) gd_Facts_findUsefulRules_6 (by decide) rfl ?_
  refine gh_pick (L2 := [(0, 2, 20), (1, 0, 0)]) [1, 0] rfl ?_
  exact gh_M1_sound (T := fun v1 m => gh_T E (gh_yFacts_findUsefulRules.cls, prog_4_method_8_code, 2, false, 9) (d + 3) 7 [(0, 2, 20), (1, 0, v1)] [] m (fun r m1 => gh_F m1 ∧ Q r m1)) (fun _ m => gh_F m) (fun K7 v1 m hK hF h => b_Facts_findUsefulRules_7 d hK v1 m hF h) 0 (gh_u m 20 5 0) hF h
def f_Facts_namesIn_4 (v1 : Int) (Q : Int → Prop) (m : gh_M) (K4 : Int → Int → Prop) (v2 : Int) (v3 : Int) : Prop := 0 ≤ v1 ∧ v1 < 20 ∧ ((v3 < (m 17 v1) → k_Grammar_nameAt v1 v3 m ∧ ∀ v4 : Int, v4 = x_Grammar_nameAt v1 v3 m → ∀ v2' : Int, v2' = gh_ior_f v2 (if v4 = (-1) then 0 else (gh_ishl_f 1 v4)) → gh_i (v3 + 1) ∧ K4 v2' (v3 + 1)) ∧ (¬ (v3 < (m 17 v1)) → Q v2))
def w_Facts_namesIn (v1 : Int) (m : gh_M) (Q : Int → Prop) : Prop := gh_L2 (fun K4 v2 v3 => f_Facts_namesIn_4 v1 Q m K4 v2 v3) 0 0
theorem b_Facts_namesIn_4 {E : gh_E} {v1 : Int} {Q : Int → Prop} {K4 : Int → Int → Prop} (d : Nat) {m : gh_M} (hK : ∀ (v2 : Int) (v3 : Int), gh_F m → K4 v2 v3 → gh_T E (gh_yFacts_namesIn.cls, prog_4_method_10_code, 5, false, 0) (d + 2) 4 [(0, 2, 20), (1, 0, v1), (2, 0, v2), (3, 0, v3)] [] m (fun r m1 => m1 = m ∧ Q r)) (v2 : Int) (v3 : Int) (hF : gh_F m) (h : f_Facts_namesIn_4 v1 Q m K4 v2 v3) : gh_T E (gh_yFacts_namesIn.cls, prog_4_method_10_code, 5, false, 0) (d + 2) 4 [(0, 2, 20), (1, 0, v1), (2, 0, v2), (3, 0, v3)] [] m (fun r m1 => m1 = m ∧ Q r) := by
  have hK4 := hK
  unfold f_Facts_namesIn_4 at h
  refine gh_iload_n gd_Facts_namesIn_4 3 rfl ?_
  refine gh_aload_n gd_Facts_namesIn_5 0 rfl (by decide) ?_
  refine gf_20_0 gd_Facts_namesIn_6 gh_k319 hF ?_
  refine gf_13_6 gd_Facts_namesIn_9 gh_k285 hF ?_
  refine gh_iload_n gd_Facts_namesIn_12 1 rfl ?_
  obtain ⟨q828, h⟩ := h
  obtain ⟨q829, h⟩ := h
  refine la_17 gd_Facts_namesIn_13 hF q828 q829 rfl ?_
  obtain ⟨hA, hB⟩ := h
  refine gh_jge (tgt := 51) gd_Facts_namesIn_14 (by decide) (fun c830 => ?_) (fun c830 => ?_)
  · have h := hA c830
    refine gh_aload_n gd_Facts_namesIn_17 0 rfl (by decide) ?_
    refine gf_20_0 gd_Facts_namesIn_18 gh_k319 hF ?_
    refine gh_iload_n gd_Facts_namesIn_21 1 rfl ?_
    refine gh_iload_n gd_Facts_namesIn_22 3 rfl ?_
    obtain ⟨q831, h⟩ := h
    refine cv_Grammar_nameAt (d := d + 1) gd_Facts_namesIn_23 gh_k869 hF (Nat.le_of_ble_eq_true rfl) (gh_C.pe (e_Grammar_nameAt d v1 v3 hF q831) ?_)
    refine gh_name (fun v4 hn => ?_)
    have h := h v4 hn
    refine gh_istore (L2 := [(4, 0, v4), (0, 2, 20), (1, 0, v1), (2, 0, v2), (3, 0, v3)]) gd_Facts_namesIn_26 (by decide) rfl ?_
    refine gh_iload_n gd_Facts_namesIn_28 3 rfl ?_
    refine gh_iload gd_Facts_namesIn_29 0 rfl ?_
    refine gh_iconst gd_Facts_namesIn_31 (gh_r0 rfl) ?_
    have k832 : ∀ x833 : Int, x833 = (if v4 = (-1) then 0 else (gh_ishl_f 1 v4)) → gh_T E (gh_yFacts_namesIn.cls, prog_4_method_10_code, 5, false, 0) (d + 2) 43 [(4, 0, v4), (0, 2, 20), (1, 0, v1), (2, 0, v2), (3, 0, v3)] [(0, x833), (0, v2)] m (fun r m1 => m1 = m ∧ Q r) := by
      rintro _ rfl
      refine gh_ior gd_Facts_namesIn_43 ?_
      refine gh_name (fun v2' hn => ?_)
      have h := h v2' hn
      refine gh_istore_n (L2 := [(2, 0, v2'), (4, 0, v4), (0, 2, 20), (1, 0, v1), (3, 0, v3)]) gd_Facts_namesIn_44 (by decide) rfl ?_
      obtain ⟨q834, h⟩ := h
      refine gh_iinc (L2 := [(3, 0, v3 + 1), (2, 0, v2'), (4, 0, v4), (0, 2, 20), (1, 0, v1)]) gd_Facts_namesIn_45 4 rfl q834 (by decide) rfl ?_
      refine gh_goto (tgt := 4) gd_Facts_namesIn_48 (by decide) ?_
      refine gh_pick (L2 := [(0, 2, 20), (1, 0, v1), (2, 0, v2'), (3, 0, v3 + 1)]) [3, 4, 1, 0] rfl ?_
      exact hK4 v2' (v3 + 1) hF h
    refine gh_jne (tgt := 39) gd_Facts_namesIn_32 (by decide) (fun c835 => ?_) (fun c835 => ?_)
    · have hz : True := trivial
      refine gh_iconst gd_Facts_namesIn_35 (gh_r0 rfl) ?_
      refine gh_goto (tgt := 43) gd_Facts_namesIn_36 (by decide) ?_
      exact k832 _ (by rw [if_pos c835])
    · have hz : True := trivial
      refine gh_iconst gd_Facts_namesIn_39 (gh_r0 rfl) ?_
      refine gh_iload gd_Facts_namesIn_40 0 rfl ?_
      refine gh_ishl gd_Facts_namesIn_42 ?_
      exact k832 _ (by rw [if_neg c835])
  · have h := hB c830
    refine gh_iload_n gd_Facts_namesIn_51 2 rfl ?_
    exact gh_ret0 rfl gd_Facts_namesIn_52 ⟨rfl, h⟩
theorem s_Facts_namesIn {E : gh_E} {m : gh_M} {Q : Int → Prop} (d : Nat) (v1 : Int) (hF : gh_F m) (h : w_Facts_namesIn v1 m Q) : gh_C E gh_yFacts_namesIn prog_4_method_10_code 5 (some .int) 0 (d + 2) [(2, 20), (0, v1)] m (fun r m1 => m1 = m ∧ Q r) := by
  refine gh_enter2 (L := [(0, 2, 20), (1, 0, v1)]) (by decide +kernel) gh_rt0 (Nat.le_of_ble_eq_true rfl) rfl rfl ?_
  unfold w_Facts_namesIn at h
  refine gh_iconst gd_Facts_namesIn_0 (gh_r0 rfl) ?_
  refine gh_istore_n (L2 := [(2, 0, 0), (0, 2, 20), (1, 0, v1)]) gd_Facts_namesIn_1 (by decide) rfl ?_
  refine gh_iconst gd_Facts_namesIn_2 (gh_r0 rfl) ?_
  refine gh_istore_n (L2 := [(3, 0, 0), (2, 0, 0), (0, 2, 20), (1, 0, v1)]) gd_Facts_namesIn_3 (by decide) rfl ?_
  refine gh_pick (L2 := [(0, 2, 20), (1, 0, v1), (2, 0, 0), (3, 0, 0)]) [2, 3, 1, 0] rfl ?_
  exact gh_L2_sound (T := fun v2 v3 => gh_T E (gh_yFacts_namesIn.cls, prog_4_method_10_code, 5, false, 0) (d + 2) 4 [(0, 2, 20), (1, 0, v1), (2, 0, v2), (3, 0, v3)] [] m (fun r m1 => m1 = m ∧ Q r)) (fun _ _ => gh_F m) (fun K4 v2 v3 hK hF h => b_Facts_namesIn_4 d hK v2 v3 hF h) 0 0 hF h
def f_Facts_spread_18 (v1 : Int) (v3 : Int) (K4 : Int → Int → Prop) (m : gh_M) (K18 : Int → Int → Prop) (v2 : Int) (v4 : Int) : Prop := ((v4 < (m 13 2) → ∃ J65 : Int → Prop, (∀ (v2' : Int), J65 v2' → gh_i (v4 + 1) ∧ K18 v2' (v4 + 1)) ∧ ((¬ ((gh_iand_f (gh_ishr_f v1 v4) 1) = 0) → (0 ≤ v4 ∧ v4 < 20))) ∧ (((((gh_iand_f (gh_ishr_f v1 v4) 1) = 0) ∨ ((gh_iand_f (gh_ishr_f v2 (m 16 v4)) 1) = 0)) → J65 v2) ∧ (¬ (((gh_iand_f (gh_ishr_f v1 v4) 1) = 0) ∨ ((gh_iand_f (gh_ishr_f v2 (m 16 v4)) 1) = 0)) → w_Facts_namesIn v4 m (fun r843 => ∀ v2' : Int, v2' = gh_ior_f v2 r843 → J65 v2')))) ∧ (¬ (v4 < (m 13 2)) → gh_i (v3 + 1) ∧ K4 v2 (v3 + 1)))
def f_Facts_spread_4 (v1 : Int) (Q : Int → Prop) (m : gh_M) (K4 : Int → Int → Prop) (v2 : Int) (v3 : Int) : Prop := ((v3 < (m 13 1) → gh_L2 (fun K18 v2 v4 => f_Facts_spread_18 v1 v3 K4 m K18 v2 v4) v2 0) ∧ (¬ (v3 < (m 13 1)) → Q v2))
def w_Facts_spread (v1 : Int) (m : gh_M) (Q : Int → Prop) : Prop := gh_L2 (fun K4 v2 v3 => f_Facts_spread_4 v1 Q m K4 v2 v3) 1 0
theorem b_Facts_spread_18 {E : gh_E} {v1 : Int} {v3 : Int} {K4 : Int → Int → Prop} {Q : Int → Prop} {K18 : Int → Int → Prop} (d : Nat) {m : gh_M} (hK4 : ∀ (v2 : Int) (v3 : Int), gh_F m → K4 v2 v3 → gh_T E (gh_yFacts_spread.cls, prog_4_method_9_code, 5, false, 0) (d + 3) 4 [(0, 2, 20), (1, 0, v1), (2, 0, v2), (3, 0, v3)] [] m (fun r m1 => m1 = m ∧ Q r)) (hK : ∀ (v2 : Int) (v4 : Int), gh_F m → K18 v2 v4 → gh_T E (gh_yFacts_spread.cls, prog_4_method_9_code, 5, false, 0) (d + 3) 18 [(0, 2, 20), (1, 0, v1), (2, 0, v2), (3, 0, v3), (4, 0, v4)] [] m (fun r m1 => m1 = m ∧ Q r)) (v2 : Int) (v4 : Int) (hF : gh_F m) (h : f_Facts_spread_18 v1 v3 K4 m K18 v2 v4) : gh_T E (gh_yFacts_spread.cls, prog_4_method_9_code, 5, false, 0) (d + 3) 18 [(0, 2, 20), (1, 0, v1), (2, 0, v2), (3, 0, v3), (4, 0, v4)] [] m (fun r m1 => m1 = m ∧ Q r) := by
  have hK18 := hK
  unfold f_Facts_spread_18 at h
  refine gh_iload gd_Facts_spread_18 4 rfl ?_
  refine gh_aload_n gd_Facts_spread_20 0 rfl (by decide) ?_
  refine gf_20_0 gd_Facts_spread_21 gh_k319 hF ?_
  refine gf_13_2 gd_Facts_spread_24 gh_k265 hF rfl ?_
  obtain ⟨hA, hB⟩ := h
  refine gh_jge (tgt := 71) gd_Facts_spread_27 (by decide) (fun c837 => ?_) (fun c837 => ?_)
  · have h := hA c837
    refine gh_iload_n gd_Facts_spread_30 1 rfl ?_
    refine gh_iload gd_Facts_spread_31 4 rfl ?_
    refine gh_ishr gd_Facts_spread_33 ?_
    refine gh_iconst gd_Facts_spread_34 (gh_r0 rfl) ?_
    refine gh_iand gd_Facts_spread_35 ?_
    obtain ⟨J65, hJ65, h⟩ := h
    have hJ65 : ∀ (v2' : Int), gh_F m → J65 v2' → gh_T E (gh_yFacts_spread.cls, prog_4_method_9_code, 5, false, 0) (d + 3) 65 [(0, 2, 20), (1, 0, v1), (2, 0, v2'), (3, 0, v3), (4, 0, v4)] [] m (fun r m1 => m1 = m ∧ Q r) := by
      intro v2' hF hj
      have h := hJ65 v2' hj
      obtain ⟨q838, h⟩ := h
      refine gh_iinc (L2 := [(4, 0, v4 + 1), (0, 2, 20), (1, 0, v1), (2, 0, v2'), (3, 0, v3)]) gd_Facts_spread_65 4 rfl q838 (by decide) rfl ?_
      refine gh_goto (tgt := 18) gd_Facts_spread_68 (by decide) ?_
      refine gh_pick (L2 := [(0, 2, 20), (1, 0, v1), (2, 0, v2'), (3, 0, v3), (4, 0, v4 + 1)]) [1, 2, 3, 4, 0] rfl ?_
      exact hK18 v2' (v4 + 1) hF h
    obtain ⟨hk, hA, hB⟩ := h
    have k841 : (((gh_iand_f (gh_ishr_f v1 v4) 1) = 0) ∨ ((gh_iand_f (gh_ishr_f v2 (m 16 v4)) 1) = 0)) → gh_T E (gh_yFacts_spread.cls, prog_4_method_9_code, 5, false, 0) (d + 3) 65 [(0, 2, 20), (1, 0, v1), (2, 0, v2), (3, 0, v3), (4, 0, v4)] [] m (fun r m1 => m1 = m ∧ Q r) := by
      intro c
      have h := hA c
      exact hJ65 v2 hF h
    have k842 : ¬ (((gh_iand_f (gh_ishr_f v1 v4) 1) = 0) ∨ ((gh_iand_f (gh_ishr_f v2 (m 16 v4)) 1) = 0)) → gh_T E (gh_yFacts_spread.cls, prog_4_method_9_code, 5, false, 0) (d + 3) 56 [(0, 2, 20), (1, 0, v1), (2, 0, v2), (3, 0, v3), (4, 0, v4)] [] m (fun r m1 => m1 = m ∧ Q r) := by
      intro c
      have h := hB c
      refine gh_iload_n gd_Facts_spread_56 2 rfl ?_
      refine gh_aload_n gd_Facts_spread_57 0 rfl (by decide) ?_
      refine gh_iload gd_Facts_spread_58 4 rfl ?_
      refine cv_Facts_namesIn (d := d + 2) gd_Facts_spread_60 gh_k903 hF (Nat.le_of_ble_eq_true rfl) (gh_C.pw (s_Facts_namesIn d v4 hF h) (fun r843 h => ?_))
      refine gh_ior gd_Facts_spread_63 ?_
      refine gh_name (fun v2' hn => ?_)
      have h := h v2' hn
      refine gh_istore_n (L2 := [(2, 0, v2'), (0, 2, 20), (1, 0, v1), (3, 0, v3), (4, 0, v4)]) gd_Facts_spread_64 (by decide) rfl ?_
      refine gh_pick (L2 := [(0, 2, 20), (1, 0, v1), (2, 0, v2'), (3, 0, v3), (4, 0, v4)]) [1, 2, 0, 3, 4] rfl ?_
      exact hJ65 v2' hF h
    refine gh_zeq (tgt := 65) gd_Facts_spread_36 (by decide) (fun c845 => ?_) (fun c845 => ?_)
    · have hz : True := trivial
      exact k841 (Or.inl c845)
    · have hz : True := trivial
      have hk := hk c845
      refine gh_iload_n gd_Facts_spread_39 2 rfl ?_
      refine gh_aload_n gd_Facts_spread_40 0 rfl (by decide) ?_
      refine gf_20_0 gd_Facts_spread_41 gh_k319 hF ?_
      refine gf_13_5 gd_Facts_spread_44 gh_k280 hF ?_
      refine gh_iload gd_Facts_spread_47 4 rfl ?_
      obtain ⟨q839, hk⟩ := hk
      have q840 := hk
      refine la_16 gd_Facts_spread_49 hF q839 q840 rfl ?_
      refine gh_ishr gd_Facts_spread_50 ?_
      refine gh_iconst gd_Facts_spread_51 (gh_r0 rfl) ?_
      refine gh_iand gd_Facts_spread_52 ?_
      refine gh_zeq (tgt := 65) gd_Facts_spread_53 (by decide) (fun c846 => ?_) (fun c846 => ?_)
      · have hz : True := trivial
        exact k841 (Or.inr c846)
      · have hz : True := trivial
        exact k842 (fun z => z.elim c845 c846)
  · have h := hB c837
    obtain ⟨q847, h⟩ := h
    refine gh_iinc (L2 := [(3, 0, v3 + 1), (0, 2, 20), (1, 0, v1), (2, 0, v2), (4, 0, v4)]) gd_Facts_spread_71 3 rfl q847 (by decide) rfl ?_
    refine gh_goto (tgt := 4) gd_Facts_spread_74 (by decide) ?_
    refine gh_pick (L2 := [(0, 2, 20), (1, 0, v1), (2, 0, v2), (3, 0, v3 + 1)]) [1, 2, 3, 0] rfl ?_
    exact hK4 v2 (v3 + 1) hF h
theorem b_Facts_spread_4 {E : gh_E} {v1 : Int} {Q : Int → Prop} {K4 : Int → Int → Prop} (d : Nat) {m : gh_M} (hK : ∀ (v2 : Int) (v3 : Int), gh_F m → K4 v2 v3 → gh_T E (gh_yFacts_spread.cls, prog_4_method_9_code, 5, false, 0) (d + 3) 4 [(0, 2, 20), (1, 0, v1), (2, 0, v2), (3, 0, v3)] [] m (fun r m1 => m1 = m ∧ Q r)) (v2 : Int) (v3 : Int) (hF : gh_F m) (h : f_Facts_spread_4 v1 Q m K4 v2 v3) : gh_T E (gh_yFacts_spread.cls, prog_4_method_9_code, 5, false, 0) (d + 3) 4 [(0, 2, 20), (1, 0, v1), (2, 0, v2), (3, 0, v3)] [] m (fun r m1 => m1 = m ∧ Q r) := by
  have hK4 := hK
  unfold f_Facts_spread_4 at h
  refine gh_iload_n gd_Facts_spread_4 3 rfl ?_
  refine gh_aload_n gd_Facts_spread_5 0 rfl (by decide) ?_
  refine gf_20_0 gd_Facts_spread_6 gh_k319 hF ?_
  refine gf_13_1 gd_Facts_spread_9 gh_k258 hF rfl ?_
  obtain ⟨hA, hB⟩ := h
  refine gh_jge (tgt := 77) gd_Facts_spread_12 (by decide) (fun c836 => ?_) (fun c836 => ?_)
  · have h := hA c836
    refine gh_iconst gd_Facts_spread_15 (gh_r0 rfl) ?_
    refine gh_istore (L2 := [(4, 0, 0), (0, 2, 20), (1, 0, v1), (2, 0, v2), (3, 0, v3)]) gd_Facts_spread_16 (by decide) rfl ?_
    refine gh_pick (L2 := [(0, 2, 20), (1, 0, v1), (2, 0, v2), (3, 0, v3), (4, 0, 0)]) [1, 2, 3, 4, 0] rfl ?_
    exact gh_L2_sound (T := fun v2 v4 => gh_T E (gh_yFacts_spread.cls, prog_4_method_9_code, 5, false, 0) (d + 3) 18 [(0, 2, 20), (1, 0, v1), (2, 0, v2), (3, 0, v3), (4, 0, v4)] [] m (fun r m1 => m1 = m ∧ Q r)) (fun _ _ => gh_F m) (fun K18 v2 v4 hK hF h => b_Facts_spread_18 d hK4 hK v2 v4 hF h) v2 0 hF h
  · have h := hB c836
    refine gh_iload_n gd_Facts_spread_77 2 rfl ?_
    exact gh_ret0 rfl gd_Facts_spread_78 ⟨rfl, h⟩
theorem s_Facts_spread {E : gh_E} {m : gh_M} {Q : Int → Prop} (d : Nat) (v1 : Int) (hF : gh_F m) (h : w_Facts_spread v1 m Q) : gh_C E gh_yFacts_spread prog_4_method_9_code 5 (some .int) 0 (d + 3) [(2, 20), (0, v1)] m (fun r m1 => m1 = m ∧ Q r) := by
  refine gh_enter2 (L := [(0, 2, 20), (1, 0, v1)]) (by decide +kernel) gh_rt0 (Nat.le_of_ble_eq_true rfl) rfl rfl ?_
  unfold w_Facts_spread at h
  refine gh_iconst gd_Facts_spread_0 (gh_r0 rfl) ?_
  refine gh_istore_n (L2 := [(2, 0, 1), (0, 2, 20), (1, 0, v1)]) gd_Facts_spread_1 (by decide) rfl ?_
  refine gh_iconst gd_Facts_spread_2 (gh_r0 rfl) ?_
  refine gh_istore_n (L2 := [(3, 0, 0), (2, 0, 1), (0, 2, 20), (1, 0, v1)]) gd_Facts_spread_3 (by decide) rfl ?_
  refine gh_pick (L2 := [(0, 2, 20), (1, 0, v1), (2, 0, 1), (3, 0, 0)]) [2, 3, 1, 0] rfl ?_
  exact gh_L2_sound (T := fun v2 v3 => gh_T E (gh_yFacts_spread.cls, prog_4_method_9_code, 5, false, 0) (d + 3) 4 [(0, 2, 20), (1, 0, v1), (2, 0, v2), (3, 0, v3)] [] m (fun r m1 => m1 = m ∧ Q r)) (fun _ _ => gh_F m) (fun K4 v2 v3 hK hF h => b_Facts_spread_4 d hK v2 v3 hF h) 1 0 hF h
def f_Facts_closeOver_24_9 (v1 : Int) (v2 : Int) (K2 : Int → gh_M → Prop) (K9 : Int → gh_M → Prop) (v3 : Int) (m : gh_M) : Prop := ((v3 < v1 → 0 ≤ v3 ∧ v3 < 8 ∧ ∃ J33 : gh_M → Prop, (∀ (m : gh_M), J33 m → gh_i (v3 + 1) ∧ K9 (v3 + 1) m) ∧ (((gh_iand_f (gh_ishr_f (m 24 v3) v2) 1) = 0 → J33 m) ∧ (¬ ((gh_iand_f (gh_ishr_f (m 24 v3) v2) 1) = 0) → 0 ≤ v3 ∧ v3 < 8 ∧ 0 ≤ v2 ∧ v2 < 8 ∧ 0 ≤ v3 ∧ v3 < 8 ∧ J33 (gh_u m 24 v3 (gh_ior_f (m 24 v3) (m 24 v2)))))) ∧ (¬ (v3 < v1) → gh_i (v2 + 1) ∧ K2 (v2 + 1) m))
def f_Facts_closeOver_24_2 (v1 : Int) (Q : Int → gh_M → Prop) (K2 : Int → gh_M → Prop) (v2 : Int) (m : gh_M) : Prop := ((v2 < v1 → gh_M1 (fun K9 v3 m => f_Facts_closeOver_24_9 v1 v2 K2 K9 v3 m) 0 m) ∧ (¬ (v2 < v1) → Q 0 m))
def w_Facts_closeOver_24 (v1 : Int) (m : gh_M) (Q : Int → gh_M → Prop) : Prop := gh_M1 (fun K2 v2 m => f_Facts_closeOver_24_2 v1 Q K2 v2 m) 0 m
theorem b_Facts_closeOver_24_9 {E : gh_E} {v1 : Int} {v2 : Int} {K2 : Int → gh_M → Prop} {Q : Int → gh_M → Prop} {K9 : Int → gh_M → Prop} (d : Nat) (hK2 : ∀ (v2 : Int) (m : gh_M), gh_F m → K2 v2 m → gh_T E (gh_yFacts_closeOver.cls, prog_4_method_12_code, 4, false, 9) (d + 0) 2 [(0, 2, 24), (1, 0, v1), (2, 0, v2)] [] m (fun r m1 => gh_F m1 ∧ Q r m1)) (hK : ∀ (v3 : Int) (m : gh_M), gh_F m → K9 v3 m → gh_T E (gh_yFacts_closeOver.cls, prog_4_method_12_code, 4, false, 9) (d + 0) 9 [(0, 2, 24), (1, 0, v1), (2, 0, v2), (3, 0, v3)] [] m (fun r m1 => gh_F m1 ∧ Q r m1)) (v3 : Int) (m : gh_M) (hF : gh_F m) (h : f_Facts_closeOver_24_9 v1 v2 K2 K9 v3 m) : gh_T E (gh_yFacts_closeOver.cls, prog_4_method_12_code, 4, false, 9) (d + 0) 9 [(0, 2, 24), (1, 0, v1), (2, 0, v2), (3, 0, v3)] [] m (fun r m1 => gh_F m1 ∧ Q r m1) := by
  have hK9 := hK
  unfold f_Facts_closeOver_24_9 at h
  refine gh_iload_n gd_Facts_closeOver_9 3 rfl ?_
  refine gh_iload_n gd_Facts_closeOver_10 1 rfl ?_
  obtain ⟨hA, hB⟩ := h
  refine gh_jge (tgt := 39) gd_Facts_closeOver_11 (by decide) (fun c868 => ?_) (fun c868 => ?_)
  · have h := hA c868
    refine gh_aload_n gd_Facts_closeOver_14 0 rfl (by decide) ?_
    refine gh_iload_n gd_Facts_closeOver_15 3 rfl ?_
    obtain ⟨q869, h⟩ := h
    obtain ⟨q870, h⟩ := h
    refine la_24 gd_Facts_closeOver_16 hF q869 q870 rfl ?_
    refine gh_iload_n gd_Facts_closeOver_17 2 rfl ?_
    refine gh_ishr gd_Facts_closeOver_18 ?_
    refine gh_iconst gd_Facts_closeOver_19 (gh_r0 rfl) ?_
    refine gh_iand gd_Facts_closeOver_20 ?_
    obtain ⟨J33, hJ33, h⟩ := h
    have hJ33 : ∀ (m : gh_M), gh_F m → J33 m → gh_T E (gh_yFacts_closeOver.cls, prog_4_method_12_code, 4, false, 9) (d + 0) 33 [(0, 2, 24), (1, 0, v1), (2, 0, v2), (3, 0, v3)] [] m (fun r m1 => gh_F m1 ∧ Q r m1) := by
      intro m hF hj
      have h := hJ33 m hj
      obtain ⟨q871, h⟩ := h
      refine gh_iinc (L2 := [(3, 0, v3 + 1), (0, 2, 24), (1, 0, v1), (2, 0, v2)]) gd_Facts_closeOver_33 3 rfl q871 (by decide) rfl ?_
      refine gh_goto (tgt := 9) gd_Facts_closeOver_36 (by decide) ?_
      refine gh_pick (L2 := [(0, 2, 24), (1, 0, v1), (2, 0, v2), (3, 0, v3 + 1)]) [1, 2, 3, 0] rfl ?_
      exact hK9 (v3 + 1) m hF h
    obtain ⟨hA, hB⟩ := h
    refine gh_zeq (tgt := 33) gd_Facts_closeOver_21 (by decide) (fun c872 => ?_) (fun c872 => ?_)
    · have h := hA c872
      exact hJ33 m hF h
    · have h := hB c872
      refine gh_aload_n gd_Facts_closeOver_24 0 rfl (by decide) ?_
      refine gh_iload_n gd_Facts_closeOver_25 3 rfl ?_
      refine gh_dup2 gd_Facts_closeOver_26 (by decide) (by decide) ?_
      obtain ⟨q873, h⟩ := h
      obtain ⟨q874, h⟩ := h
      refine la_24 gd_Facts_closeOver_27 hF q873 q874 rfl ?_
      refine gh_aload_n gd_Facts_closeOver_28 0 rfl (by decide) ?_
      refine gh_iload_n gd_Facts_closeOver_29 2 rfl ?_
      obtain ⟨q875, h⟩ := h
      obtain ⟨q876, h⟩ := h
      refine la_24 gd_Facts_closeOver_30 hF q875 q876 rfl ?_
      refine gh_ior gd_Facts_closeOver_31 ?_
      obtain ⟨q877, h⟩ := h
      obtain ⟨q878, h⟩ := h
      refine sa_24 gd_Facts_closeOver_32 hF q877 q878 (fun hF => ?_)
      exact hJ33 (gh_u m 24 v3 (gh_ior_f (m 24 v3) (m 24 v2))) hF h
  · have h := hB c868
    obtain ⟨q879, h⟩ := h
    refine gh_iinc (L2 := [(2, 0, v2 + 1), (0, 2, 24), (1, 0, v1), (3, 0, v3)]) gd_Facts_closeOver_39 2 rfl q879 (by decide) rfl ?_
    refine gh_goto (tgt := 2) gd_Facts_closeOver_42 (by decide) ?_
    refine gh_pick (L2 := [(0, 2, 24), (1, 0, v1), (2, 0, v2 + 1)]) [1, 2, 0] rfl ?_
    exact hK2 (v2 + 1) m hF h
theorem b_Facts_closeOver_24_2 {E : gh_E} {v1 : Int} {Q : Int → gh_M → Prop} {K2 : Int → gh_M → Prop} (d : Nat) (hK : ∀ (v2 : Int) (m : gh_M), gh_F m → K2 v2 m → gh_T E (gh_yFacts_closeOver.cls, prog_4_method_12_code, 4, false, 9) (d + 0) 2 [(0, 2, 24), (1, 0, v1), (2, 0, v2)] [] m (fun r m1 => gh_F m1 ∧ Q r m1)) (v2 : Int) (m : gh_M) (hF : gh_F m) (h : f_Facts_closeOver_24_2 v1 Q K2 v2 m) : gh_T E (gh_yFacts_closeOver.cls, prog_4_method_12_code, 4, false, 9) (d + 0) 2 [(0, 2, 24), (1, 0, v1), (2, 0, v2)] [] m (fun r m1 => gh_F m1 ∧ Q r m1) := by
  have hK2 := hK
  unfold f_Facts_closeOver_24_2 at h
  refine gh_iload_n gd_Facts_closeOver_2 2 rfl ?_
  refine gh_iload_n gd_Facts_closeOver_3 1 rfl ?_
  obtain ⟨hA, hB⟩ := h
  refine gh_jge (tgt := 45) gd_Facts_closeOver_4 (by decide) (fun c867 => ?_) (fun c867 => ?_)
  · have h := hA c867
    refine gh_iconst gd_Facts_closeOver_7 (gh_r0 rfl) ?_
    refine gh_istore_n (L2 := [(3, 0, 0), (0, 2, 24), (1, 0, v1), (2, 0, v2)]) gd_Facts_closeOver_8 (by decide) rfl ?_
    refine gh_pick (L2 := [(0, 2, 24), (1, 0, v1), (2, 0, v2), (3, 0, 0)]) [1, 2, 3, 0] rfl ?_
    exact gh_M1_sound (T := fun v3 m => gh_T E (gh_yFacts_closeOver.cls, prog_4_method_12_code, 4, false, 9) (d + 0) 9 [(0, 2, 24), (1, 0, v1), (2, 0, v2), (3, 0, v3)] [] m (fun r m1 => gh_F m1 ∧ Q r m1)) (fun _ m => gh_F m) (fun K9 v3 m hK hF h => b_Facts_closeOver_24_9 d hK2 hK v3 m hF h) 0 m hF h
  · have h := hB c867
    exact gh_ret9 rfl gd_Facts_closeOver_45 ⟨hF, h⟩
theorem s_Facts_closeOver_24 {E : gh_E} {m : gh_M} {Q : Int → gh_M → Prop} (d : Nat) (v1 : Int) (hF : gh_F m) (h : w_Facts_closeOver_24 v1 m Q) : gh_C E gh_yFacts_closeOver prog_4_method_12_code 4 none 9 (d + 0) [(2, 24), (0, v1)] m (fun r m1 => gh_F m1 ∧ Q r m1) := by
  refine gh_enter2 (L := [(0, 2, 24), (1, 0, v1)]) (by decide +kernel) gh_rt9 (Nat.le_of_ble_eq_true rfl) rfl rfl ?_
  unfold w_Facts_closeOver_24 at h
  refine gh_iconst gd_Facts_closeOver_0 (gh_r0 rfl) ?_
  refine gh_istore_n (L2 := [(2, 0, 0), (0, 2, 24), (1, 0, v1)]) gd_Facts_closeOver_1 (by decide) rfl ?_
  refine gh_pick (L2 := [(0, 2, 24), (1, 0, v1), (2, 0, 0)]) [1, 2, 0] rfl ?_
  exact gh_M1_sound (T := fun v2 m => gh_T E (gh_yFacts_closeOver.cls, prog_4_method_12_code, 4, false, 9) (d + 0) 2 [(0, 2, 24), (1, 0, v1), (2, 0, v2)] [] m (fun r m1 => gh_F m1 ∧ Q r m1)) (fun _ m => gh_F m) (fun K2 v2 m hK hF h => b_Facts_closeOver_24_2 d hK v2 m hF h) 0 m hF h
