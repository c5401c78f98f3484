theorem eb_Model_bit {E : gh_E} {m : gh_M} (d : Nat) {P : Prop} [Decidable P] : gh_C E gh_yModel_bit prog_14_method_43_code 1 (some .int) 0 (d + 0) [(0, if P then (1:Int) else 0)] m (fun r m1 => m1 = m ∧ r = (if P then (1:Int) else 0)) := by
  refine gh_enter2 (L := [(0, 0, if P then (1:Int) else 0)]) (by decide +kernel) gh_rt0 (Nat.le_of_ble_eq_true rfl) rfl rfl ?_
  refine gh_iload_n gd_Model_bit_0 0 rfl ?_
  refine gh_beq (tgt := 8) gd_Model_bit_1 (by decide) (fun c => ?_) (fun c => ?_)
  · refine gh_iconst gd_Model_bit_4 (gh_r0 rfl) ?_
    refine gh_goto (tgt := 9) gd_Model_bit_5 (by decide) ?_
    exact gh_ret0 rfl gd_Model_bit_9 ⟨rfl, (if_pos c).symm⟩
  · refine gh_iconst gd_Model_bit_8 (gh_r0 rfl) ?_
    exact gh_ret0 rfl gd_Model_bit_9 ⟨rfl, (if_neg c).symm⟩
def x_Tape_signAt (v1 : Int) (m : gh_M) : Int := (if v1 < 0 then (-1) else (if v1 < (m 3 1) then (if v1 < 240 then (m 4 v1) else (-1)) else (-1)))
def k_Tape_signAt (v1 : Int) (m : gh_M) : Prop := (¬ (v1 < 0) → (((v1 < (m 3 1)) → (((v1 < 240) → (0 ≤ v1 ∧ v1 < 240))))))
theorem e_Tape_signAt {E : gh_E} {m : gh_M} (d : Nat) (v1 : Int) (hF : gh_F m) (hk : k_Tape_signAt v1 m) : gh_C E gh_yTape_signAt prog_10_method_5_code 2 (some .int) 0 (d + 0) [(2, 3), (0, v1)] m (fun r m1 => m1 = m ∧ r = x_Tape_signAt v1 m) := by
  refine gh_enter2 (L := [(0, 2, 3), (1, 0, v1)]) (by decide +kernel) gh_rt0 (Nat.le_of_ble_eq_true rfl) rfl rfl ?_
  unfold k_Tape_signAt at hk
  refine gh_iload_n gd_Tape_signAt_0 1 rfl ?_
  refine gh_zlt (tgt := 28) gd_Tape_signAt_1 (by decide) (fun c3 => ?_) (fun c3 => ?_)
  · have hz : True := trivial
    refine gh_iconst gd_Tape_signAt_28 (gh_r0 rfl) ?_
    refine gh_ret0 rfl gd_Tape_signAt_29 ⟨rfl, ?_⟩
    unfold x_Tape_signAt
    rw [if_pos c3]
  · have hz : True := trivial
    have hk := hk c3
    refine gh_iload_n gd_Tape_signAt_4 1 rfl ?_
    refine gh_aload_n gd_Tape_signAt_5 0 rfl (by decide) ?_
    refine gf_3_1 gd_Tape_signAt_6 gh_k163 hF rfl ?_
    refine gh_jge (tgt := 28) gd_Tape_signAt_9 (by decide) (fun c4 => ?_) (fun c4 => ?_)
    · have hz : True := trivial
      have hk := hk c4
      refine gh_iload_n gd_Tape_signAt_12 1 rfl ?_
      refine gh_sipush gd_Tape_signAt_13 (by decide) (gh_r0 rfl) ?_
      refine gh_jge (tgt := 28) gd_Tape_signAt_16 (by decide) (fun c5 => ?_) (fun c5 => ?_)
      · have hz : True := trivial
        have hk := hk c5
        refine gh_aload_n gd_Tape_signAt_19 0 rfl (by decide) ?_
        refine gf_3_0 gd_Tape_signAt_20 gh_k161 hF ?_
        refine gh_iload_n gd_Tape_signAt_23 1 rfl ?_
        obtain ⟨q1, hk⟩ := hk
        have q2 := hk
        refine la_4 gd_Tape_signAt_24 hF q1 q2 rfl ?_
        refine gh_goto (tgt := 29) gd_Tape_signAt_25 (by decide) ?_
        refine gh_ret0 rfl gd_Tape_signAt_29 ⟨rfl, ?_⟩
        unfold x_Tape_signAt
        rw [if_neg c3, if_pos c4, if_pos c5]
      · have hz : True := trivial
        refine gh_iconst gd_Tape_signAt_28 (gh_r0 rfl) ?_
        refine gh_ret0 rfl gd_Tape_signAt_29 ⟨rfl, ?_⟩
        unfold x_Tape_signAt
        rw [if_neg c3, if_pos c4, if_neg c5]
    · have hz : True := trivial
      refine gh_iconst gd_Tape_signAt_28 (gh_r0 rfl) ?_
      refine gh_ret0 rfl gd_Tape_signAt_29 ⟨rfl, ?_⟩
      unfold x_Tape_signAt
      rw [if_neg c3, if_neg c4]
def x_House_sign (v1 : Int) (m : gh_M) : Int := (if v1 < 0 then (-1001) else (if v1 < (m 3 1) then (x_Tape_signAt v1 m) else (-1001)))
def k_House_sign (v1 : Int) (m : gh_M) : Prop := (¬ (v1 < 0) → (((v1 < (m 3 1)) → (k_Tape_signAt v1 m))))
theorem e_House_sign {E : gh_E} {m : gh_M} (d : Nat) (v1 : Int) (hF : gh_F m) (hk : k_House_sign v1 m) : gh_C E gh_yHouse_sign prog_1_method_4_code 2 (some .int) 0 (d + 1) [(2, 2), (0, v1)] m (fun r m1 => m1 = m ∧ r = x_House_sign v1 m) := by
  refine gh_enter2 (L := [(0, 2, 2), (1, 0, v1)]) (by decide +kernel) gh_rt0 (Nat.le_of_ble_eq_true rfl) rfl rfl ?_
  unfold k_House_sign at hk
  refine gh_iload_n gd_House_sign_0 1 rfl ?_
  refine gh_zlt (tgt := 15) gd_House_sign_1 (by decide) (fun c7 => ?_) (fun c7 => ?_)
  · have hz : True := trivial
    refine gh_sipush gd_House_sign_15 (by decide) (gh_r0 rfl) ?_
    refine gh_goto (tgt := 29) gd_House_sign_18 (by decide) ?_
    refine gh_ret0 rfl gd_House_sign_29 ⟨rfl, ?_⟩
    unfold x_House_sign
    rw [if_pos c7]
  · have hz : True := trivial
    have hk := hk c7
    refine gh_iload_n gd_House_sign_4 1 rfl ?_
    refine gh_aload_n gd_House_sign_5 0 rfl (by decide) ?_
    refine gf_2_0 gd_House_sign_6 gh_k633 hF ?_
    refine gf_3_1 gd_House_sign_9 gh_k162 hF rfl ?_
    refine gh_jlt (tgt := 21) gd_House_sign_12 (by decide) (fun c8 => ?_) (fun c8 => ?_)
    · have hz : True := trivial
      have hk := hk c8
      refine gh_aload_n gd_House_sign_21 0 rfl (by decide) ?_
      refine gf_2_0 gd_House_sign_22 gh_k633 hF ?_
      refine gh_iload_n gd_House_sign_25 1 rfl ?_
      have q6 := hk
      refine cv_Tape_signAt (d := d) gd_House_sign_26 gh_k689 hF (Nat.le_of_ble_eq_true rfl) (gh_C.pe (e_Tape_signAt d v1 hF q6) ?_)
      refine gh_ret0 rfl gd_House_sign_29 ⟨rfl, ?_⟩
      unfold x_House_sign
      rw [if_neg c7, if_pos c8]
    · have hz : True := trivial
      refine gh_sipush gd_House_sign_15 (by decide) (gh_r0 rfl) ?_
      refine gh_goto (tgt := 29) gd_House_sign_18 (by decide) ?_
      refine gh_ret0 rfl gd_House_sign_29 ⟨rfl, ?_⟩
      unfold x_House_sign
      rw [if_neg c7, if_neg c8]
theorem e_Tape_isFigure {E : gh_E} {m : gh_M} (d : Nat) (v0 : Int) : gh_C E gh_yTape_isFigure prog_10_method_11_code 1 (some .boolean) 8 (d + 0) [(0, v0)] m (fun r m1 => m1 = m ∧ r = (if ¬ (v0 < 48) ∧ (v0 ≤ 57) then (1:Int) else 0)) := by
  refine gh_enter2 (L := [(0, 0, v0)]) (by decide +kernel) gh_rt8 (Nat.le_of_ble_eq_true rfl) rfl rfl ?_
  refine gh_iload_n gd_Tape_isFigure_0 0 rfl ?_
  refine gh_bipush gd_Tape_isFigure_1 (by decide) (gh_r0 rfl) ?_
  refine gh_jlt (tgt := 16) gd_Tape_isFigure_3 (by decide) (fun c9 => ?_) (fun c9 => ?_)
  · have hz : True := trivial
    refine gh_iconst gd_Tape_isFigure_16 (gh_r0 rfl) ?_
    refine gh_ret8 rfl gd_Tape_isFigure_17 (by decide) ⟨rfl, ?_⟩
    exact (if_neg (c := ¬ (v0 < 48) ∧ (v0 ≤ 57)) (fun z => z.1 c9)).symm
  · have hz : True := trivial
    refine gh_iload_n gd_Tape_isFigure_6 0 rfl ?_
    refine gh_bipush gd_Tape_isFigure_7 (by decide) (gh_r0 rfl) ?_
    refine gh_jgt (tgt := 16) gd_Tape_isFigure_9 (by decide) (fun c10 => ?_) (fun c10 => ?_)
    · have hz : True := trivial
      refine gh_iconst gd_Tape_isFigure_12 (gh_r0 rfl) ?_
      refine gh_goto (tgt := 17) gd_Tape_isFigure_13 (by decide) ?_
      refine gh_ret8 rfl gd_Tape_isFigure_17 (by decide) ⟨rfl, ?_⟩
      exact (if_pos (c := ¬ (v0 < 48) ∧ (v0 ≤ 57)) ⟨c9, c10⟩).symm
    · have hz : True := trivial
      refine gh_iconst gd_Tape_isFigure_16 (gh_r0 rfl) ?_
      refine gh_ret8 rfl gd_Tape_isFigure_17 (by decide) ⟨rfl, ?_⟩
      exact (if_neg (c := ¬ (v0 < 48) ∧ (v0 ≤ 57)) (fun z => c10 z.2)).symm
theorem e_Tape_isSmall {E : gh_E} {m : gh_M} (d : Nat) (v0 : Int) : gh_C E gh_yTape_isSmall prog_10_method_12_code 1 (some .boolean) 8 (d + 0) [(0, v0)] m (fun r m1 => m1 = m ∧ r = (if ¬ (v0 < 97) ∧ (v0 ≤ 122) then (1:Int) else 0)) := by
  refine gh_enter2 (L := [(0, 0, v0)]) (by decide +kernel) gh_rt8 (Nat.le_of_ble_eq_true rfl) rfl rfl ?_
  refine gh_iload_n gd_Tape_isSmall_0 0 rfl ?_
  refine gh_bipush gd_Tape_isSmall_1 (by decide) (gh_r0 rfl) ?_
  refine gh_jlt (tgt := 16) gd_Tape_isSmall_3 (by decide) (fun c11 => ?_) (fun c11 => ?_)
  · have hz : True := trivial
    refine gh_iconst gd_Tape_isSmall_16 (gh_r0 rfl) ?_
    refine gh_ret8 rfl gd_Tape_isSmall_17 (by decide) ⟨rfl, ?_⟩
    exact (if_neg (c := ¬ (v0 < 97) ∧ (v0 ≤ 122)) (fun z => z.1 c11)).symm
  · have hz : True := trivial
    refine gh_iload_n gd_Tape_isSmall_6 0 rfl ?_
    refine gh_bipush gd_Tape_isSmall_7 (by decide) (gh_r0 rfl) ?_
    refine gh_jgt (tgt := 16) gd_Tape_isSmall_9 (by decide) (fun c12 => ?_) (fun c12 => ?_)
    · have hz : True := trivial
      refine gh_iconst gd_Tape_isSmall_12 (gh_r0 rfl) ?_
      refine gh_goto (tgt := 17) gd_Tape_isSmall_13 (by decide) ?_
      refine gh_ret8 rfl gd_Tape_isSmall_17 (by decide) ⟨rfl, ?_⟩
      exact (if_pos (c := ¬ (v0 < 97) ∧ (v0 ≤ 122)) ⟨c11, c12⟩).symm
    · have hz : True := trivial
      refine gh_iconst gd_Tape_isSmall_16 (gh_r0 rfl) ?_
      refine gh_ret8 rfl gd_Tape_isSmall_17 (by decide) ⟨rfl, ?_⟩
      exact (if_neg (c := ¬ (v0 < 97) ∧ (v0 ≤ 122)) (fun z => c12 z.2)).symm
abbrev p_Tape_isMark (v0 : Int) : Prop := (v0 = 58) ∨ ((v0 = 59) ∨ ((v0 = 124) ∨ ((v0 = 40) ∨ ((v0 = 41) ∨ ((v0 = 63) ∨ ((v0 = 42) ∨ (v0 = 43)))))))
theorem e_Tape_isMark {E : gh_E} {m : gh_M} (d : Nat) (v0 : Int) : gh_C E gh_yTape_isMark prog_10_method_13_code 1 (some .boolean) 8 (d + 0) [(0, v0)] m (fun r m1 => m1 = m ∧ r = (if p_Tape_isMark v0 then (1:Int) else 0)) := by
  refine gh_enter2 (L := [(0, 0, v0)]) (by decide +kernel) gh_rt8 (Nat.le_of_ble_eq_true rfl) rfl rfl ?_
  refine gh_iload_n gd_Tape_isMark_0 0 rfl ?_
  refine gh_bipush gd_Tape_isMark_1 (by decide) (gh_r0 rfl) ?_
  refine gh_jeq (tgt := 48) gd_Tape_isMark_3 (by decide) (fun c13 => ?_) (fun c13 => ?_)
  · have hz : True := trivial
    refine gh_iconst gd_Tape_isMark_48 (gh_r0 rfl) ?_
    refine gh_goto (tgt := 53) gd_Tape_isMark_49 (by decide) ?_
    refine gh_ret8 rfl gd_Tape_isMark_53 (by decide) ⟨rfl, ?_⟩
    exact (if_pos (c := p_Tape_isMark v0) (Or.inl c13)).symm
  · have hz : True := trivial
    refine gh_iload_n gd_Tape_isMark_6 0 rfl ?_
    refine gh_bipush gd_Tape_isMark_7 (by decide) (gh_r0 rfl) ?_
    refine gh_jeq (tgt := 48) gd_Tape_isMark_9 (by decide) (fun c14 => ?_) (fun c14 => ?_)
    · have hz : True := trivial
      refine gh_iconst gd_Tape_isMark_48 (gh_r0 rfl) ?_
      refine gh_goto (tgt := 53) gd_Tape_isMark_49 (by decide) ?_
      refine gh_ret8 rfl gd_Tape_isMark_53 (by decide) ⟨rfl, ?_⟩
      exact (if_pos (c := p_Tape_isMark v0) (Or.inr (Or.inl c14))).symm
    · have hz : True := trivial
      refine gh_iload_n gd_Tape_isMark_12 0 rfl ?_
      refine gh_bipush gd_Tape_isMark_13 (by decide) (gh_r0 rfl) ?_
      refine gh_jeq (tgt := 48) gd_Tape_isMark_15 (by decide) (fun c15 => ?_) (fun c15 => ?_)
      · have hz : True := trivial
        refine gh_iconst gd_Tape_isMark_48 (gh_r0 rfl) ?_
        refine gh_goto (tgt := 53) gd_Tape_isMark_49 (by decide) ?_
        refine gh_ret8 rfl gd_Tape_isMark_53 (by decide) ⟨rfl, ?_⟩
        exact (if_pos (c := p_Tape_isMark v0) (Or.inr (Or.inr (Or.inl c15)))).symm
      · have hz : True := trivial
        refine gh_iload_n gd_Tape_isMark_18 0 rfl ?_
        refine gh_bipush gd_Tape_isMark_19 (by decide) (gh_r0 rfl) ?_
        refine gh_jeq (tgt := 48) gd_Tape_isMark_21 (by decide) (fun c16 => ?_) (fun c16 => ?_)
        · have hz : True := trivial
          refine gh_iconst gd_Tape_isMark_48 (gh_r0 rfl) ?_
          refine gh_goto (tgt := 53) gd_Tape_isMark_49 (by decide) ?_
          refine gh_ret8 rfl gd_Tape_isMark_53 (by decide) ⟨rfl, ?_⟩
          exact (if_pos (c := p_Tape_isMark v0) (Or.inr (Or.inr (Or.inr (Or.inl c16))))).symm
        · have hz : True := trivial
          refine gh_iload_n gd_Tape_isMark_24 0 rfl ?_
          refine gh_bipush gd_Tape_isMark_25 (by decide) (gh_r0 rfl) ?_
          refine gh_jeq (tgt := 48) gd_Tape_isMark_27 (by decide) (fun c17 => ?_) (fun c17 => ?_)
          · have hz : True := trivial
            refine gh_iconst gd_Tape_isMark_48 (gh_r0 rfl) ?_
            refine gh_goto (tgt := 53) gd_Tape_isMark_49 (by decide) ?_
            refine gh_ret8 rfl gd_Tape_isMark_53 (by decide) ⟨rfl, ?_⟩
            exact (if_pos (c := p_Tape_isMark v0) (Or.inr (Or.inr (Or.inr (Or.inr (Or.inl c17)))))).symm
          · have hz : True := trivial
            refine gh_iload_n gd_Tape_isMark_30 0 rfl ?_
            refine gh_bipush gd_Tape_isMark_31 (by decide) (gh_r0 rfl) ?_
            refine gh_jeq (tgt := 48) gd_Tape_isMark_33 (by decide) (fun c18 => ?_) (fun c18 => ?_)
            · have hz : True := trivial
              refine gh_iconst gd_Tape_isMark_48 (gh_r0 rfl) ?_
              refine gh_goto (tgt := 53) gd_Tape_isMark_49 (by decide) ?_
              refine gh_ret8 rfl gd_Tape_isMark_53 (by decide) ⟨rfl, ?_⟩
              exact (if_pos (c := p_Tape_isMark v0) (Or.inr (Or.inr (Or.inr (Or.inr (Or.inr (Or.inl c18))))))).symm
            · have hz : True := trivial
              refine gh_iload_n gd_Tape_isMark_36 0 rfl ?_
              refine gh_bipush gd_Tape_isMark_37 (by decide) (gh_r0 rfl) ?_
              refine gh_jeq (tgt := 48) gd_Tape_isMark_39 (by decide) (fun c19 => ?_) (fun c19 => ?_)
              · have hz : True := trivial
                refine gh_iconst gd_Tape_isMark_48 (gh_r0 rfl) ?_
                refine gh_goto (tgt := 53) gd_Tape_isMark_49 (by decide) ?_
                refine gh_ret8 rfl gd_Tape_isMark_53 (by decide) ⟨rfl, ?_⟩
                exact (if_pos (c := p_Tape_isMark v0) (Or.inr (Or.inr (Or.inr (Or.inr (Or.inr (Or.inr (Or.inl c19)))))))).symm
              · have hz : True := trivial
                refine gh_iload_n gd_Tape_isMark_42 0 rfl ?_
                refine gh_bipush gd_Tape_isMark_43 (by decide) (gh_r0 rfl) ?_
                refine gh_jne (tgt := 52) gd_Tape_isMark_45 (by decide) (fun c20 => ?_) (fun c20 => ?_)
                · have hz : True := trivial
                  refine gh_iconst gd_Tape_isMark_48 (gh_r0 rfl) ?_
                  refine gh_goto (tgt := 53) gd_Tape_isMark_49 (by decide) ?_
                  refine gh_ret8 rfl gd_Tape_isMark_53 (by decide) ⟨rfl, ?_⟩
                  exact (if_pos (c := p_Tape_isMark v0) (Or.inr (Or.inr (Or.inr (Or.inr (Or.inr (Or.inr (Or.inr c20)))))))).symm
                · have hz : True := trivial
                  refine gh_iconst gd_Tape_isMark_52 (gh_r0 rfl) ?_
                  refine gh_ret8 rfl gd_Tape_isMark_53 (by decide) ⟨rfl, ?_⟩
                  exact (if_neg (c := p_Tape_isMark v0) (fun z => z.elim c13 (fun z => z.elim c14 (fun z => z.elim c15 (fun z => z.elim c16 (fun z => z.elim c17 (fun z => z.elim c18 (fun z => z.elim c19 c20)))))))).symm
def x_Draft_allNames (m : gh_M) : Int := ((m 6 1) + (m 6 2))
def k_Draft_allNames (m : gh_M) : Prop := gh_i ((m 6 1) + (m 6 2))
theorem e_Draft_allNames {E : gh_E} {m : gh_M} (d : Nat) (hF : gh_F m) (hk : k_Draft_allNames m) : gh_C E gh_yDraft_allNames prog_3_method_3_code 1 (some .int) 0 (d + 0) [(2, 6)] m (fun r m1 => m1 = m ∧ r = x_Draft_allNames m) := by
  refine gh_enter2 (L := [(0, 2, 6)]) (by decide +kernel) gh_rt0 (Nat.le_of_ble_eq_true rfl) rfl rfl ?_
  unfold k_Draft_allNames at hk
  refine gh_aload_n gd_Draft_allNames_0 0 rfl (by decide) ?_
  refine gf_6_1 gd_Draft_allNames_1 gh_k194 hF rfl ?_
  refine gh_aload_n gd_Draft_allNames_4 0 rfl (by decide) ?_
  refine gf_6_2 gd_Draft_allNames_5 gh_k196 hF rfl ?_
  have q21 := hk
  refine gh_iadd gd_Draft_allNames_8 q21 ?_
  refine gh_ret0 rfl gd_Draft_allNames_9 ⟨rfl, ?_⟩
  rfl
def x_Tape_width (m : gh_M) : Int := (if (m 3 2) = 2 then (((m 3 4) - (m 3 3)) - 2) else 1)
def k_Tape_width (m : gh_M) : Prop := (((m 3 2) = 2) → (gh_i ((m 3 4) - (m 3 3)) ∧ gh_i (((m 3 4) - (m 3 3)) - 2)))
theorem e_Tape_width {E : gh_E} {m : gh_M} (d : Nat) (hF : gh_F m) (hk : k_Tape_width m) : gh_C E gh_yTape_width prog_10_method_15_code 1 (some .int) 0 (d + 0) [(2, 3)] m (fun r m1 => m1 = m ∧ r = x_Tape_width m) := by
  refine gh_enter2 (L := [(0, 2, 3)]) (by decide +kernel) gh_rt0 (Nat.le_of_ble_eq_true rfl) rfl rfl ?_
  unfold k_Tape_width at hk
  refine gh_aload_n gd_Tape_width_0 0 rfl (by decide) ?_
  refine gf_3_2 gd_Tape_width_1 gh_k165 hF rfl ?_
  refine gh_iconst gd_Tape_width_4 (gh_r0 rfl) ?_
  refine gh_jne (tgt := 22) gd_Tape_width_5 (by decide) (fun c24 => ?_) (fun c24 => ?_)
  · have hz : True := trivial
    have hk := hk c24
    refine gh_aload_n gd_Tape_width_8 0 rfl (by decide) ?_
    refine gf_3_4 gd_Tape_width_9 gh_k168 hF rfl ?_
    refine gh_aload_n gd_Tape_width_12 0 rfl (by decide) ?_
    refine gf_3_3 gd_Tape_width_13 gh_k167 hF rfl ?_
    obtain ⟨q22, hk⟩ := hk
    refine gh_isub gd_Tape_width_16 q22 ?_
    refine gh_iconst gd_Tape_width_17 (gh_r0 rfl) ?_
    have q23 := hk
    refine gh_isub gd_Tape_width_18 q23 ?_
    refine gh_goto (tgt := 23) gd_Tape_width_19 (by decide) ?_
    refine gh_ret0 rfl gd_Tape_width_23 ⟨rfl, ?_⟩
    unfold x_Tape_width
    rw [if_pos c24]
  · have hz : True := trivial
    refine gh_iconst gd_Tape_width_22 (gh_r0 rfl) ?_
    refine gh_ret0 rfl gd_Tape_width_23 ⟨rfl, ?_⟩
    unfold x_Tape_width
    rw [if_neg c24]
def x_Tape_setOfQuote (v1 : Int) (m : gh_M) : Int := (gh_ishl_f 1 ((x_Tape_signAt (((m 3 3) + 1) + v1) m) - 97))
def k_Tape_setOfQuote (v1 : Int) (m : gh_M) : Prop := gh_i ((m 3 3) + 1) ∧ gh_i (((m 3 3) + 1) + v1) ∧ k_Tape_signAt (((m 3 3) + 1) + v1) m ∧ gh_i ((x_Tape_signAt (((m 3 3) + 1) + v1) m) - 97)
theorem e_Tape_setOfQuote {E : gh_E} {m : gh_M} (d : Nat) (v1 : Int) (hF : gh_F m) (hk : k_Tape_setOfQuote v1 m) : gh_C E gh_yTape_setOfQuote prog_10_method_16_code 2 (some .int) 0 (d + 1) [(2, 3), (0, v1)] m (fun r m1 => m1 = m ∧ r = x_Tape_setOfQuote v1 m) := by
  refine gh_enter2 (L := [(0, 2, 3), (1, 0, v1)]) (by decide +kernel) gh_rt0 (Nat.le_of_ble_eq_true rfl) rfl rfl ?_
  unfold k_Tape_setOfQuote at hk
  refine gh_iconst gd_Tape_setOfQuote_0 (gh_r0 rfl) ?_
  refine gh_aload_n gd_Tape_setOfQuote_1 0 rfl (by decide) ?_
  refine gh_aload_n gd_Tape_setOfQuote_2 0 rfl (by decide) ?_
  refine gf_3_3 gd_Tape_setOfQuote_3 gh_k167 hF rfl ?_
  refine gh_iconst gd_Tape_setOfQuote_6 (gh_r0 rfl) ?_
  obtain ⟨q25, hk⟩ := hk
  refine gh_iadd gd_Tape_setOfQuote_7 q25 ?_
  refine gh_iload_n gd_Tape_setOfQuote_8 1 rfl ?_
  obtain ⟨q26, hk⟩ := hk
  refine gh_iadd gd_Tape_setOfQuote_9 q26 ?_
  obtain ⟨q27, hk⟩ := hk
  refine cv_Tape_signAt (d := d) gd_Tape_setOfQuote_10 gh_k713 hF (Nat.le_of_ble_eq_true rfl) (gh_C.pe (e_Tape_signAt d (((m 3 3) + 1) + v1) hF q27) ?_)
  refine gh_bipush gd_Tape_setOfQuote_13 (by decide) (gh_r0 rfl) ?_
  have q28 := hk
  refine gh_isub gd_Tape_setOfQuote_15 q28 ?_
  refine gh_ishl gd_Tape_setOfQuote_16 ?_
  refine gh_ret0 rfl gd_Tape_setOfQuote_17 ⟨rfl, ?_⟩
  rfl
def x_Grammar_partAt (v1 : Int) (v2 : Int) (m : gh_M) : Int := (if v1 < 0 then 0 else (if v1 < (m 13 2) then (if v2 < 0 then 0 else (if v2 < (m 17 v1) then (m 19 ((v1 * 4) + v2)) else 0)) else 0))
def k_Grammar_partAt (v1 : Int) (v2 : Int) (m : gh_M) : Prop := (¬ (v1 < 0) → (((v1 < (m 13 2)) → ((¬ (v2 < 0) → (0 ≤ v1 ∧ v1 < 20 ∧ ((v2 < (m 17 v1)) → (gh_i (v1 * 4) ∧ gh_i ((v1 * 4) + v2) ∧ 0 ≤ (v1 * 4) + v2 ∧ ((v1 * 4) + v2) < 80))))))))
theorem e_Grammar_partAt {E : gh_E} {m : gh_M} (d : Nat) (v1 : Int) (v2 : Int) (hF : gh_F m) (hk : k_Grammar_partAt v1 v2 m) : gh_C E gh_yGrammar_partAt prog_6_method_6_code 3 (some .int) 0 (d + 0) [(2, 13), (0, v1), (0, v2)] m (fun r m1 => m1 = m ∧ r = x_Grammar_partAt v1 v2 m) := by
  refine gh_enter2 (L := [(0, 2, 13), (1, 0, v1), (2, 0, v2)]) (by decide +kernel) gh_rt0 (Nat.le_of_ble_eq_true rfl) rfl rfl ?_
  unfold k_Grammar_partAt at hk
  refine gh_iload_n gd_Grammar_partAt_0 1 rfl ?_
  refine gh_zlt (tgt := 39) gd_Grammar_partAt_1 (by decide) (fun c35 => ?_) (fun c35 => ?_)
  · have hz : True := trivial
    refine gh_iconst gd_Grammar_partAt_39 (gh_r0 rfl) ?_
    refine gh_ret0 rfl gd_Grammar_partAt_40 ⟨rfl, ?_⟩
    unfold x_Grammar_partAt
    rw [if_pos c35]
  · have hz : True := trivial
    have hk := hk c35
    refine gh_iload_n gd_Grammar_partAt_4 1 rfl ?_
    refine gh_aload_n gd_Grammar_partAt_5 0 rfl (by decide) ?_
    refine gf_13_2 gd_Grammar_partAt_6 gh_k263 hF rfl ?_
    refine gh_jge (tgt := 39) gd_Grammar_partAt_9 (by decide) (fun c36 => ?_) (fun c36 => ?_)
    · have hz : True := trivial
      have hk := hk c36
      refine gh_iload_n gd_Grammar_partAt_12 2 rfl ?_
      refine gh_zlt (tgt := 39) gd_Grammar_partAt_13 (by decide) (fun c37 => ?_) (fun c37 => ?_)
      · have hz : True := trivial
        refine gh_iconst gd_Grammar_partAt_39 (gh_r0 rfl) ?_
        refine gh_ret0 rfl gd_Grammar_partAt_40 ⟨rfl, ?_⟩
        unfold x_Grammar_partAt
        rw [if_neg c35, if_pos c36, if_pos c37]
      · have hz : True := trivial
        have hk := hk c37
        refine gh_iload_n gd_Grammar_partAt_16 2 rfl ?_
        refine gh_aload_n gd_Grammar_partAt_17 0 rfl (by decide) ?_
        refine gf_13_6 gd_Grammar_partAt_18 gh_k283 hF ?_
        refine gh_iload_n gd_Grammar_partAt_21 1 rfl ?_
        obtain ⟨q29, hk⟩ := hk
        obtain ⟨q30, hk⟩ := hk
        refine la_17 gd_Grammar_partAt_22 hF q29 q30 rfl ?_
        refine gh_jge (tgt := 39) gd_Grammar_partAt_23 (by decide) (fun c38 => ?_) (fun c38 => ?_)
        · have hz : True := trivial
          have hk := hk c38
          refine gh_aload_n gd_Grammar_partAt_26 0 rfl (by decide) ?_
          refine gf_13_8 gd_Grammar_partAt_27 gh_k293 hF ?_
          refine gh_iload_n gd_Grammar_partAt_30 1 rfl ?_
          refine gh_iconst gd_Grammar_partAt_31 (gh_r0 rfl) ?_
          obtain ⟨q31, hk⟩ := hk
          refine gh_imul gd_Grammar_partAt_32 q31 ?_
          refine gh_iload_n gd_Grammar_partAt_33 2 rfl ?_
          obtain ⟨q32, hk⟩ := hk
          refine gh_iadd gd_Grammar_partAt_34 q32 ?_
          obtain ⟨q33, hk⟩ := hk
          have q34 := hk
          refine la_19 gd_Grammar_partAt_35 hF q33 q34 rfl ?_
          refine gh_goto (tgt := 40) gd_Grammar_partAt_36 (by decide) ?_
          refine gh_ret0 rfl gd_Grammar_partAt_40 ⟨rfl, ?_⟩
          unfold x_Grammar_partAt
          rw [if_neg c35, if_pos c36, if_neg c37, if_pos c38]
        · have hz : True := trivial
          refine gh_iconst gd_Grammar_partAt_39 (gh_r0 rfl) ?_
          refine gh_ret0 rfl gd_Grammar_partAt_40 ⟨rfl, ?_⟩
          unfold x_Grammar_partAt
          rw [if_neg c35, if_pos c36, if_neg c37, if_neg c38]
    · have hz : True := trivial
      refine gh_iconst gd_Grammar_partAt_39 (gh_r0 rfl) ?_
      refine gh_ret0 rfl gd_Grammar_partAt_40 ⟨rfl, ?_⟩
      unfold x_Grammar_partAt
      rw [if_neg c35, if_neg c36]
def x_Grammar_nameOf (v1 : Int) (m : gh_M) : Int := (if v1 < 0 then (if v1 < (-(m 13 1)) then (-1) else ((-1) - v1)) else (-1))
def k_Grammar_nameOf (v1 : Int) (m : gh_M) : Prop := ((v1 < 0) → (gh_i (-(m 13 1)) ∧ (¬ (v1 < (-(m 13 1))) → (gh_i ((-1) - v1)))))
theorem e_Grammar_nameOf {E : gh_E} {m : gh_M} (d : Nat) (v1 : Int) (hF : gh_F m) (hk : k_Grammar_nameOf v1 m) : gh_C E gh_yGrammar_nameOf prog_6_method_7_code 2 (some .int) 0 (d + 0) [(2, 13), (0, v1)] m (fun r m1 => m1 = m ∧ r = x_Grammar_nameOf v1 m) := by
  refine gh_enter2 (L := [(0, 2, 13), (1, 0, v1)]) (by decide +kernel) gh_rt0 (Nat.le_of_ble_eq_true rfl) rfl rfl ?_
  unfold k_Grammar_nameOf at hk
  refine gh_iload_n gd_Grammar_nameOf_0 1 rfl ?_
  refine gh_zge (tgt := 19) gd_Grammar_nameOf_1 (by decide) (fun c41 => ?_) (fun c41 => ?_)
  · have hz : True := trivial
    have hk := hk c41
    refine gh_iload_n gd_Grammar_nameOf_4 1 rfl ?_
    refine gh_aload_n gd_Grammar_nameOf_5 0 rfl (by decide) ?_
    refine gf_13_1 gd_Grammar_nameOf_6 gh_k257 hF rfl ?_
    obtain ⟨q39, hk⟩ := hk
    refine gh_ineg gd_Grammar_nameOf_9 q39 ?_
    refine gh_jlt (tgt := 19) gd_Grammar_nameOf_10 (by decide) (fun c42 => ?_) (fun c42 => ?_)
    · have hz : True := trivial
      refine gh_iconst gd_Grammar_nameOf_19 (gh_r0 rfl) ?_
      refine gh_ret0 rfl gd_Grammar_nameOf_20 ⟨rfl, ?_⟩
      unfold x_Grammar_nameOf
      rw [if_pos c41, if_pos c42]
    · have hz : True := trivial
      have hk := hk c42
      refine gh_iconst gd_Grammar_nameOf_13 (gh_r0 rfl) ?_
      refine gh_iload_n gd_Grammar_nameOf_14 1 rfl ?_
      have q40 := hk
      refine gh_isub gd_Grammar_nameOf_15 q40 ?_
      refine gh_goto (tgt := 20) gd_Grammar_nameOf_16 (by decide) ?_
      refine gh_ret0 rfl gd_Grammar_nameOf_20 ⟨rfl, ?_⟩
      unfold x_Grammar_nameOf
      rw [if_pos c41, if_neg c42]
  · have hz : True := trivial
    refine gh_iconst gd_Grammar_nameOf_19 (gh_r0 rfl) ?_
    refine gh_ret0 rfl gd_Grammar_nameOf_20 ⟨rfl, ?_⟩
    unfold x_Grammar_nameOf
    rw [if_neg c41]
def x_Grammar_nameAt (v1 : Int) (v2 : Int) (m : gh_M) : Int := (x_Grammar_nameOf (x_Grammar_partAt v1 v2 m) m)
def k_Grammar_nameAt (v1 : Int) (v2 : Int) (m : gh_M) : Prop := k_Grammar_partAt v1 v2 m ∧ k_Grammar_nameOf (x_Grammar_partAt v1 v2 m) m
theorem e_Grammar_nameAt {E : gh_E} {m : gh_M} (d : Nat) (v1 : Int) (v2 : Int) (hF : gh_F m) (hk : k_Grammar_nameAt v1 v2 m) : gh_C E gh_yGrammar_nameAt prog_6_method_8_code 3 (some .int) 0 (d + 1) [(2, 13), (0, v1), (0, v2)] m (fun r m1 => m1 = m ∧ r = x_Grammar_nameAt v1 v2 m) := by
  refine gh_enter2 (L := [(0, 2, 13), (1, 0, v1), (2, 0, v2)]) (by decide +kernel) gh_rt0 (Nat.le_of_ble_eq_true rfl) rfl rfl ?_
  unfold k_Grammar_nameAt at hk
  refine gh_aload_n gd_Grammar_nameAt_0 0 rfl (by decide) ?_
  refine gh_aload_n gd_Grammar_nameAt_1 0 rfl (by decide) ?_
  refine gh_iload_n gd_Grammar_nameAt_2 1 rfl ?_
  refine gh_iload_n gd_Grammar_nameAt_3 2 rfl ?_
  obtain ⟨q43, hk⟩ := hk
  refine cv_Grammar_partAt (d := d) gd_Grammar_nameAt_4 gh_k873 hF (Nat.le_of_ble_eq_true rfl) (gh_C.pe (e_Grammar_partAt d v1 v2 hF q43) ?_)
  have q44 := hk
  refine cv_Grammar_nameOf (d := d) gd_Grammar_nameAt_7 gh_k877 hF (Nat.le_of_ble_eq_true rfl) (gh_C.pe (e_Grammar_nameOf d (x_Grammar_partAt v1 v2 m) hF q44) ?_)
  refine gh_ret0 rfl gd_Grammar_nameAt_10 ⟨rfl, ?_⟩
  rfl
abbrev p_Facts_isUsefulRule (v1 : Int) (m : gh_M) : Prop := ¬ ((gh_iand_f (gh_ishr_f (m 20 5) v1) 1) = 0)
theorem e_Facts_isUsefulRule {E : gh_E} {m : gh_M} (d : Nat) (v1 : Int) (hF : gh_F m) : gh_C E gh_yFacts_isUsefulRule prog_4_method_3_code 2 (some .boolean) 8 (d + 0) [(2, 20), (0, v1)] m (fun r m1 => m1 = m ∧ r = (if p_Facts_isUsefulRule v1 m then (1:Int) else 0)) := by
  refine gh_enter2 (L := [(0, 2, 20), (1, 0, v1)]) (by decide +kernel) gh_rt8 (Nat.le_of_ble_eq_true rfl) rfl rfl ?_
  refine gh_aload_n gd_Facts_isUsefulRule_0 0 rfl (by decide) ?_
  refine gf_20_5 gd_Facts_isUsefulRule_1 gh_k332 hF rfl ?_
  refine gh_iload_n gd_Facts_isUsefulRule_4 1 rfl ?_
  refine gh_ishr gd_Facts_isUsefulRule_5 ?_
  refine gh_iconst gd_Facts_isUsefulRule_6 (gh_r0 rfl) ?_
  refine gh_iand gd_Facts_isUsefulRule_7 ?_
  refine gh_zeq (tgt := 15) gd_Facts_isUsefulRule_8 (by decide) (fun c45 => ?_) (fun c45 => ?_)
  · have hz : True := trivial
    refine gh_iconst gd_Facts_isUsefulRule_15 (gh_r0 rfl) ?_
    refine gh_ret8 rfl gd_Facts_isUsefulRule_16 (by decide) ⟨rfl, ?_⟩
    exact (if_neg (c := p_Facts_isUsefulRule v1 m) (not_not_intro c45)).symm
  · have hz : True := trivial
    refine gh_iconst gd_Facts_isUsefulRule_11 (gh_r0 rfl) ?_
    refine gh_goto (tgt := 16) gd_Facts_isUsefulRule_12 (by decide) ?_
    refine gh_ret8 rfl gd_Facts_isUsefulRule_16 (by decide) ⟨rfl, ?_⟩
    exact (if_pos (c := p_Facts_isUsefulRule v1 m) c45).symm
def x_Grammar_behindRules (v1 : Int) (m : gh_M) : Int := ((m 14 v1) + (m 15 v1))
def k_Grammar_behindRules (v1 : Int) (m : gh_M) : Prop := 0 ≤ v1 ∧ v1 < 8 ∧ 0 ≤ v1 ∧ v1 < 8 ∧ gh_i ((m 14 v1) + (m 15 v1))
theorem e_Grammar_behindRules {E : gh_E} {m : gh_M} (d : Nat) (v1 : Int) (hF : gh_F m) (hk : k_Grammar_behindRules v1 m) : gh_C E gh_yGrammar_behindRules prog_6_method_9_code 2 (some .int) 0 (d + 0) [(2, 13), (0, v1)] m (fun r m1 => m1 = m ∧ r = x_Grammar_behindRules v1 m) := by
  refine gh_enter2 (L := [(0, 2, 13), (1, 0, v1)]) (by decide +kernel) gh_rt0 (Nat.le_of_ble_eq_true rfl) rfl rfl ?_
  unfold k_Grammar_behindRules at hk
  refine gh_aload_n gd_Grammar_behindRules_0 0 rfl (by decide) ?_
  refine gf_13_3 gd_Grammar_behindRules_1 gh_k269 hF ?_
  refine gh_iload_n gd_Grammar_behindRules_4 1 rfl ?_
  obtain ⟨q46, hk⟩ := hk
  obtain ⟨q47, hk⟩ := hk
  refine la_14 gd_Grammar_behindRules_5 hF q46 q47 rfl ?_
  refine gh_aload_n gd_Grammar_behindRules_6 0 rfl (by decide) ?_
  refine gf_13_4 gd_Grammar_behindRules_7 gh_k275 hF ?_
  refine gh_iload_n gd_Grammar_behindRules_10 1 rfl ?_
  obtain ⟨q48, hk⟩ := hk
  obtain ⟨q49, hk⟩ := hk
  refine la_15 gd_Grammar_behindRules_11 hF q48 q49 rfl ?_
  have q50 := hk
  refine gh_iadd gd_Grammar_behindRules_12 q50 ?_
  refine gh_ret0 rfl gd_Grammar_behindRules_13 ⟨rfl, ?_⟩
  rfl
abbrev p_House_isName (v1 : Int) (m : gh_M) : Prop := ¬ (v1 < 0) ∧ (v1 < (m 13 1))
theorem e_House_isName {E : gh_E} {m : gh_M} (d : Nat) (v1 : Int) (hF : gh_F m) : gh_C E gh_yHouse_isName prog_1_method_34_code 2 (some .boolean) 8 (d + 0) [(2, 2), (0, v1)] m (fun r m1 => m1 = m ∧ r = (if p_House_isName v1 m then (1:Int) else 0)) := by
  refine gh_enter2 (L := [(0, 2, 2), (1, 0, v1)]) (by decide +kernel) gh_rt8 (Nat.le_of_ble_eq_true rfl) rfl rfl ?_
  refine gh_iload_n gd_House_isName_0 1 rfl ?_
  refine gh_zlt (tgt := 19) gd_House_isName_1 (by decide) (fun c51 => ?_) (fun c51 => ?_)
  · have hz : True := trivial
    refine gh_iconst gd_House_isName_19 (gh_r0 rfl) ?_
    refine gh_ret8 rfl gd_House_isName_20 (by decide) ⟨rfl, ?_⟩
    exact (if_neg (c := p_House_isName v1 m) (fun z => z.1 c51)).symm
  · have hz : True := trivial
    refine gh_iload_n gd_House_isName_4 1 rfl ?_
    refine gh_aload_n gd_House_isName_5 0 rfl (by decide) ?_
    refine gf_2_2 gd_House_isName_6 gh_k635 hF ?_
    refine gf_13_1 gd_House_isName_9 gh_k262 hF rfl ?_
    refine gh_jge (tgt := 19) gd_House_isName_12 (by decide) (fun c52 => ?_) (fun c52 => ?_)
    · have hz : True := trivial
      refine gh_iconst gd_House_isName_15 (gh_r0 rfl) ?_
      refine gh_goto (tgt := 20) gd_House_isName_16 (by decide) ?_
      refine gh_ret8 rfl gd_House_isName_20 (by decide) ⟨rfl, ?_⟩
      exact (if_pos (c := p_House_isName v1 m) ⟨c51, c52⟩).symm
    · have hz : True := trivial
      refine gh_iconst gd_House_isName_19 (gh_r0 rfl) ?_
      refine gh_ret8 rfl gd_House_isName_20 (by decide) ⟨rfl, ?_⟩
      exact (if_neg (c := p_House_isName v1 m) (fun z => c52 z.2)).symm
abbrev p_House_isRule (v1 : Int) (m : gh_M) : Prop := ¬ (v1 < 0) ∧ (v1 < (m 13 2))
theorem e_House_isRule {E : gh_E} {m : gh_M} (d : Nat) (v1 : Int) (hF : gh_F m) : gh_C E gh_yHouse_isRule prog_1_method_35_code 2 (some .boolean) 8 (d + 0) [(2, 2), (0, v1)] m (fun r m1 => m1 = m ∧ r = (if p_House_isRule v1 m then (1:Int) else 0)) := by
  refine gh_enter2 (L := [(0, 2, 2), (1, 0, v1)]) (by decide +kernel) gh_rt8 (Nat.le_of_ble_eq_true rfl) rfl rfl ?_
  refine gh_iload_n gd_House_isRule_0 1 rfl ?_
  refine gh_zlt (tgt := 19) gd_House_isRule_1 (by decide) (fun c53 => ?_) (fun c53 => ?_)
  · have hz : True := trivial
    refine gh_iconst gd_House_isRule_19 (gh_r0 rfl) ?_
    refine gh_ret8 rfl gd_House_isRule_20 (by decide) ⟨rfl, ?_⟩
    exact (if_neg (c := p_House_isRule v1 m) (fun z => z.1 c53)).symm
  · have hz : True := trivial
    refine gh_iload_n gd_House_isRule_4 1 rfl ?_
    refine gh_aload_n gd_House_isRule_5 0 rfl (by decide) ?_
    refine gf_2_2 gd_House_isRule_6 gh_k635 hF ?_
    refine gf_13_2 gd_House_isRule_9 gh_k268 hF rfl ?_
    refine gh_jge (tgt := 19) gd_House_isRule_12 (by decide) (fun c54 => ?_) (fun c54 => ?_)
    · have hz : True := trivial
      refine gh_iconst gd_House_isRule_15 (gh_r0 rfl) ?_
      refine gh_goto (tgt := 20) gd_House_isRule_16 (by decide) ?_
      refine gh_ret8 rfl gd_House_isRule_20 (by decide) ⟨rfl, ?_⟩
      exact (if_pos (c := p_House_isRule v1 m) ⟨c53, c54⟩).symm
    · have hz : True := trivial
      refine gh_iconst gd_House_isRule_19 (gh_r0 rfl) ?_
      refine gh_ret8 rfl gd_House_isRule_20 (by decide) ⟨rfl, ?_⟩
      exact (if_neg (c := p_House_isRule v1 m) (fun z => c54 z.2)).symm
def x_House_rule (v1 : Int) (v2 : Int) (m : gh_M) : Int := (if (m 2 10) = 0 then (if v2 < 0 then (-1002) else (if v2 ≤ 1 then (if (m 2 10) = 0 then (-1003) else (if v2 = 0 then (m 16 v1) else (m 17 v1))) else (-1002))) else (if p_House_isRule v1 m then (if v2 < 0 then (-1002) else (if v2 ≤ 1 then (if (m 2 10) = 0 then (-1003) else (if v2 = 0 then (m 16 v1) else (m 17 v1))) else (-1002))) else (-1001)))
def k_House_rule (v1 : Int) (v2 : Int) (m : gh_M) : Prop := (((m 2 10) = 0) → ((¬ (v2 < 0) → (((v2 ≤ 1) → ((¬ ((m 2 10) = 0) → (((v2 = 0) → (0 ≤ v1 ∧ v1 < 20)) ∧ (¬ (v2 = 0) → (0 ≤ v1 ∧ v1 < 20)))))))))) ∧ (¬ ((m 2 10) = 0) → (((p_House_isRule v1 m) → ((¬ (v2 < 0) → (((v2 ≤ 1) → ((¬ ((m 2 10) = 0) → (((v2 = 0) → (0 ≤ v1 ∧ v1 < 20)) ∧ (¬ (v2 = 0) → (0 ≤ v1 ∧ v1 < 20))))))))))))
theorem e_House_rule {E : gh_E} {m : gh_M} (d : Nat) (v1 : Int) (v2 : Int) (hF : gh_F m) (hk : k_House_rule v1 v2 m) : gh_C E gh_yHouse_rule prog_1_method_10_code 3 (some .int) 0 (d + 1) [(2, 2), (0, v1), (0, v2)] m (fun r m1 => m1 = m ∧ r = x_House_rule v1 v2 m) := by
  refine gh_enter2 (L := [(0, 2, 2), (1, 0, v1), (2, 0, v2)]) (by decide +kernel) gh_rt0 (Nat.le_of_ble_eq_true rfl) rfl rfl ?_
  unfold k_House_rule at hk
  refine gh_aload_n gd_House_rule_0 0 rfl (by decide) ?_
  refine gf_2_10 gd_House_rule_1 gh_k643 hF rfl ?_
  refine gh_zeq (tgt := 19) gd_House_rule_4 (by decide) (fun c63 => ?_) (fun c63 => ?_)
  · have hz : True := trivial
    have hk := hk.1 c63
    refine gh_iload_n gd_House_rule_19 2 rfl ?_
    refine gh_zlt (tgt := 28) gd_House_rule_20 (by decide) (fun c64 => ?_) (fun c64 => ?_)
    · have hz : True := trivial
      refine gh_sipush gd_House_rule_28 (by decide) (gh_r0 rfl) ?_
      refine gh_ret0 rfl gd_House_rule_31 ⟨rfl, ?_⟩
      unfold x_House_rule
      rw [if_pos c63, if_pos c64]
    · have hz : True := trivial
      have hk := hk c64
      refine gh_iload_n gd_House_rule_23 2 rfl ?_
      refine gh_iconst gd_House_rule_24 (gh_r0 rfl) ?_
      refine gh_jle (tgt := 32) gd_House_rule_25 (by decide) (fun c65 => ?_) (fun c65 => ?_)
      · have hz : True := trivial
        have hk := hk c65
        refine gh_aload_n gd_House_rule_32 0 rfl (by decide) ?_
        refine gf_2_10 gd_House_rule_33 gh_k643 hF rfl ?_
        refine gh_zne (tgt := 43) gd_House_rule_36 (by decide) (fun c66 => ?_) (fun c66 => ?_)
        · have hz : True := trivial
          refine gh_sipush gd_House_rule_39 (by decide) (gh_r0 rfl) ?_
          refine gh_ret0 rfl gd_House_rule_42 ⟨rfl, ?_⟩
          unfold x_House_rule
          rw [if_pos c63, if_neg c64, if_pos c65, if_pos c66]
        · have hz : True := trivial
          have hk := hk c66
          refine gh_iload_n gd_House_rule_43 2 rfl ?_
          refine gh_zne (tgt := 59) gd_House_rule_44 (by decide) (fun c67 => ?_) (fun c67 => ?_)
          · have hz : True := trivial
            have hk := hk.1 c67
            refine gh_aload_n gd_House_rule_47 0 rfl (by decide) ?_
            refine gf_2_2 gd_House_rule_48 gh_k635 hF ?_
            refine gf_13_5 gd_House_rule_51 gh_k282 hF ?_
            refine gh_iload_n gd_House_rule_54 1 rfl ?_
            obtain ⟨q55, hk⟩ := hk
            have q56 := hk
            refine la_16 gd_House_rule_55 hF q55 q56 rfl ?_
            refine gh_goto (tgt := 68) gd_House_rule_56 (by decide) ?_
            refine gh_ret0 rfl gd_House_rule_68 ⟨rfl, ?_⟩
            unfold x_House_rule
            rw [if_pos c63, if_neg c64, if_pos c65, if_neg c66, if_pos c67]
          · have hz : True := trivial
            have hk := hk.2 c67
            refine gh_aload_n gd_House_rule_59 0 rfl (by decide) ?_
            refine gf_2_2 gd_House_rule_60 gh_k635 hF ?_
            refine gf_13_6 gd_House_rule_63 gh_k290 hF ?_
            refine gh_iload_n gd_House_rule_66 1 rfl ?_
            obtain ⟨q57, hk⟩ := hk
            have q58 := hk
            refine la_17 gd_House_rule_67 hF q57 q58 rfl ?_
            refine gh_ret0 rfl gd_House_rule_68 ⟨rfl, ?_⟩
            unfold x_House_rule
            rw [if_pos c63, if_neg c64, if_pos c65, if_neg c66, if_neg c67]
      · have hz : True := trivial
        refine gh_sipush gd_House_rule_28 (by decide) (gh_r0 rfl) ?_
        refine gh_ret0 rfl gd_House_rule_31 ⟨rfl, ?_⟩
        unfold x_House_rule
        rw [if_pos c63, if_neg c64, if_neg c65]
  · have hz : True := trivial
    have hk := hk.2 c63
    refine gh_aload_n gd_House_rule_7 0 rfl (by decide) ?_
    refine gh_iload_n gd_House_rule_8 1 rfl ?_
    refine cv_House_isRule (d := d) gd_House_rule_9 gh_k1000 hF (Nat.le_of_ble_eq_true rfl) (gh_C.pe (e_House_isRule d v1 hF) ?_)
    refine gh_bne (tgt := 19) gd_House_rule_12 (by decide) (fun c68 => ?_) (fun c68 => ?_)
    · have hz : True := trivial
      have hk := hk c68
      refine gh_iload_n gd_House_rule_19 2 rfl ?_
      refine gh_zlt (tgt := 28) gd_House_rule_20 (by decide) (fun c69 => ?_) (fun c69 => ?_)
      · have hz : True := trivial
        refine gh_sipush gd_House_rule_28 (by decide) (gh_r0 rfl) ?_
        refine gh_ret0 rfl gd_House_rule_31 ⟨rfl, ?_⟩
        unfold x_House_rule
        rw [if_neg c63, if_pos c68, if_pos c69]
      · have hz : True := trivial
        have hk := hk c69
        refine gh_iload_n gd_House_rule_23 2 rfl ?_
        refine gh_iconst gd_House_rule_24 (gh_r0 rfl) ?_
        refine gh_jle (tgt := 32) gd_House_rule_25 (by decide) (fun c70 => ?_) (fun c70 => ?_)
        · have hz : True := trivial
          have hk := hk c70
          refine gh_aload_n gd_House_rule_32 0 rfl (by decide) ?_
          refine gf_2_10 gd_House_rule_33 gh_k643 hF rfl ?_
          refine gh_zne (tgt := 43) gd_House_rule_36 (by decide) (fun c71 => ?_) (fun c71 => ?_)
          · have hz : True := trivial
            refine gh_sipush gd_House_rule_39 (by decide) (gh_r0 rfl) ?_
            refine gh_ret0 rfl gd_House_rule_42 ⟨rfl, ?_⟩
            unfold x_House_rule
            rw [if_neg c63, if_pos c68, if_neg c69, if_pos c70, if_pos c71]
          · have hz : True := trivial
            have hk := hk c71
            refine gh_iload_n gd_House_rule_43 2 rfl ?_
            refine gh_zne (tgt := 59) gd_House_rule_44 (by decide) (fun c72 => ?_) (fun c72 => ?_)
            · have hz : True := trivial
              have hk := hk.1 c72
              refine gh_aload_n gd_House_rule_47 0 rfl (by decide) ?_
              refine gf_2_2 gd_House_rule_48 gh_k635 hF ?_
              refine gf_13_5 gd_House_rule_51 gh_k282 hF ?_
              refine gh_iload_n gd_House_rule_54 1 rfl ?_
              obtain ⟨q59, hk⟩ := hk
              have q60 := hk
              refine la_16 gd_House_rule_55 hF q59 q60 rfl ?_
              refine gh_goto (tgt := 68) gd_House_rule_56 (by decide) ?_
              refine gh_ret0 rfl gd_House_rule_68 ⟨rfl, ?_⟩
              unfold x_House_rule
              rw [if_neg c63, if_pos c68, if_neg c69, if_pos c70, if_neg c71, if_pos c72]
            · have hz : True := trivial
              have hk := hk.2 c72
              refine gh_aload_n gd_House_rule_59 0 rfl (by decide) ?_
              refine gf_2_2 gd_House_rule_60 gh_k635 hF ?_
              refine gf_13_6 gd_House_rule_63 gh_k290 hF ?_
              refine gh_iload_n gd_House_rule_66 1 rfl ?_
              obtain ⟨q61, hk⟩ := hk
              have q62 := hk
              refine la_17 gd_House_rule_67 hF q61 q62 rfl ?_
              refine gh_ret0 rfl gd_House_rule_68 ⟨rfl, ?_⟩
              unfold x_House_rule
              rw [if_neg c63, if_pos c68, if_neg c69, if_pos c70, if_neg c71, if_neg c72]
        · have hz : True := trivial
          refine gh_sipush gd_House_rule_28 (by decide) (gh_r0 rfl) ?_
          refine gh_ret0 rfl gd_House_rule_31 ⟨rfl, ?_⟩
          unfold x_House_rule
          rw [if_neg c63, if_pos c68, if_neg c69, if_neg c70]
    · have hz : True := trivial
      refine gh_sipush gd_House_rule_15 (by decide) (gh_r0 rfl) ?_
      refine gh_ret0 rfl gd_House_rule_18 ⟨rfl, ?_⟩
      unfold x_House_rule
      rw [if_neg c63, if_neg c68]
def x_House_part (v1 : Int) (v2 : Int) (m : gh_M) : Int := (if (m 2 10) = 0 then (-1003) else (if p_House_isRule v1 m then (if v2 < 0 then (-1001) else (if v2 < (m 17 v1) then (x_Grammar_partAt v1 v2 m) else (-1001))) else (-1001)))
def k_House_part (v1 : Int) (v2 : Int) (m : gh_M) : Prop := (¬ ((m 2 10) = 0) → (((p_House_isRule v1 m) → ((¬ (v2 < 0) → (0 ≤ v1 ∧ v1 < 20 ∧ ((v2 < (m 17 v1)) → (k_Grammar_partAt v1 v2 m))))))))
theorem e_House_part {E : gh_E} {m : gh_M} (d : Nat) (v1 : Int) (v2 : Int) (hF : gh_F m) (hk : k_House_part v1 v2 m) : gh_C E gh_yHouse_part prog_1_method_11_code 3 (some .int) 0 (d + 1) [(2, 2), (0, v1), (0, v2)] m (fun r m1 => m1 = m ∧ r = x_House_part v1 v2 m) := by
  refine gh_enter2 (L := [(0, 2, 2), (1, 0, v1), (2, 0, v2)]) (by decide +kernel) gh_rt0 (Nat.le_of_ble_eq_true rfl) rfl rfl ?_
  unfold k_House_part at hk
  refine gh_aload_n gd_House_part_0 0 rfl (by decide) ?_
  refine gf_2_10 gd_House_part_1 gh_k643 hF rfl ?_
  refine gh_zne (tgt := 11) gd_House_part_4 (by decide) (fun c76 => ?_) (fun c76 => ?_)
  · have hz : True := trivial
    refine gh_sipush gd_House_part_7 (by decide) (gh_r0 rfl) ?_
    refine gh_ret0 rfl gd_House_part_10 ⟨rfl, ?_⟩
    unfold x_House_part
    rw [if_pos c76]
  · have hz : True := trivial
    have hk := hk c76
    refine gh_aload_n gd_House_part_11 0 rfl (by decide) ?_
    refine gh_iload_n gd_House_part_12 1 rfl ?_
    refine cv_House_isRule (d := d) gd_House_part_13 gh_k1000 hF (Nat.le_of_ble_eq_true rfl) (gh_C.pe (e_House_isRule d v1 hF) ?_)
    refine gh_beq (tgt := 36) gd_House_part_16 (by decide) (fun c77 => ?_) (fun c77 => ?_)
    · have hz : True := trivial
      have hk := hk c77
      refine gh_iload_n gd_House_part_19 2 rfl ?_
      refine gh_zlt (tgt := 36) gd_House_part_20 (by decide) (fun c78 => ?_) (fun c78 => ?_)
      · have hz : True := trivial
        refine gh_sipush gd_House_part_36 (by decide) (gh_r0 rfl) ?_
        refine gh_ret0 rfl gd_House_part_39 ⟨rfl, ?_⟩
        unfold x_House_part
        rw [if_neg c76, if_pos c77, if_pos c78]
      · have hz : True := trivial
        have hk := hk c78
        refine gh_iload_n gd_House_part_23 2 rfl ?_
        refine gh_aload_n gd_House_part_24 0 rfl (by decide) ?_
        refine gf_2_2 gd_House_part_25 gh_k635 hF ?_
        refine gf_13_6 gd_House_part_28 gh_k290 hF ?_
        refine gh_iload_n gd_House_part_31 1 rfl ?_
        obtain ⟨q73, hk⟩ := hk
        obtain ⟨q74, hk⟩ := hk
        refine la_17 gd_House_part_32 hF q73 q74 rfl ?_
        refine gh_jlt (tgt := 40) gd_House_part_33 (by decide) (fun c79 => ?_) (fun c79 => ?_)
        · have hz : True := trivial
          have hk := hk c79
          refine gh_aload_n gd_House_part_40 0 rfl (by decide) ?_
          refine gf_2_2 gd_House_part_41 gh_k635 hF ?_
          refine gh_iload_n gd_House_part_44 1 rfl ?_
          refine gh_iload_n gd_House_part_45 2 rfl ?_
          have q75 := hk
          refine cv_Grammar_partAt (d := d) gd_House_part_46 gh_k1008 hF (Nat.le_of_ble_eq_true rfl) (gh_C.pe (e_Grammar_partAt d v1 v2 hF q75) ?_)
          refine gh_ret0 rfl gd_House_part_49 ⟨rfl, ?_⟩
          unfold x_House_part
          rw [if_neg c76, if_pos c77, if_neg c78, if_pos c79]
        · have hz : True := trivial
          refine gh_sipush gd_House_part_36 (by decide) (gh_r0 rfl) ?_
          refine gh_ret0 rfl gd_House_part_39 ⟨rfl, ?_⟩
          unfold x_House_part
          rw [if_neg c76, if_pos c77, if_neg c78, if_neg c79]
    · have hz : True := trivial
      refine gh_sipush gd_House_part_36 (by decide) (gh_r0 rfl) ?_
      refine gh_ret0 rfl gd_House_part_39 ⟨rfl, ?_⟩
      unfold x_House_part
      rw [if_neg c76, if_neg c77]
def x_House_first (v1 : Int) (m : gh_M) : Int := (if (m 2 10) = 0 then (-1003) else (if p_House_isName v1 m then (m 22 v1) else (-1001)))
def k_House_first (v1 : Int) (m : gh_M) : Prop := (¬ ((m 2 10) = 0) → (((p_House_isName v1 m) → (0 ≤ v1 ∧ v1 < 8))))
theorem e_House_first {E : gh_E} {m : gh_M} (d : Nat) (v1 : Int) (hF : gh_F m) (hk : k_House_first v1 m) : gh_C E gh_yHouse_first prog_1_method_12_code 2 (some .int) 0 (d + 1) [(2, 2), (0, v1)] m (fun r m1 => m1 = m ∧ r = x_House_first v1 m) := by
  refine gh_enter2 (L := [(0, 2, 2), (1, 0, v1)]) (by decide +kernel) gh_rt0 (Nat.le_of_ble_eq_true rfl) rfl rfl ?_
  unfold k_House_first at hk
  refine gh_aload_n gd_House_first_0 0 rfl (by decide) ?_
  refine gf_2_10 gd_House_first_1 gh_k643 hF rfl ?_
  refine gh_zne (tgt := 11) gd_House_first_4 (by decide) (fun c82 => ?_) (fun c82 => ?_)
  · have hz : True := trivial
    refine gh_sipush gd_House_first_7 (by decide) (gh_r0 rfl) ?_
    refine gh_ret0 rfl gd_House_first_10 ⟨rfl, ?_⟩
    unfold x_House_first
    rw [if_pos c82]
  · have hz : True := trivial
    have hk := hk c82
    refine gh_aload_n gd_House_first_11 0 rfl (by decide) ?_
    refine gh_iload_n gd_House_first_12 1 rfl ?_
    refine cv_House_isName (d := d) gd_House_first_13 gh_k983 hF (Nat.le_of_ble_eq_true rfl) (gh_C.pe (e_House_isName d v1 hF) ?_)
    refine gh_beq (tgt := 31) gd_House_first_16 (by decide) (fun c83 => ?_) (fun c83 => ?_)
    · have hz : True := trivial
      have hk := hk c83
      refine gh_aload_n gd_House_first_19 0 rfl (by decide) ?_
      refine gf_2_3 gd_House_first_20 gh_k636 hF ?_
      refine gf_20_7 gd_House_first_23 gh_k338 hF ?_
      refine gh_iload_n gd_House_first_26 1 rfl ?_
      obtain ⟨q80, hk⟩ := hk
      have q81 := hk
      refine la_22 gd_House_first_27 hF q80 q81 rfl ?_
      refine gh_goto (tgt := 34) gd_House_first_28 (by decide) ?_
      refine gh_ret0 rfl gd_House_first_34 ⟨rfl, ?_⟩
      unfold x_House_first
      rw [if_neg c82, if_pos c83]
    · have hz : True := trivial
      refine gh_sipush gd_House_first_31 (by decide) (gh_r0 rfl) ?_
      refine gh_ret0 rfl gd_House_first_34 ⟨rfl, ?_⟩
      unfold x_House_first
      rw [if_neg c82, if_neg c83]
def x_House_follow (v1 : Int) (m : gh_M) : Int := (if (m 2 10) = 0 then (-1003) else (if p_House_isName v1 m then (m 23 v1) else (-1001)))
def k_House_follow (v1 : Int) (m : gh_M) : Prop := (¬ ((m 2 10) = 0) → (((p_House_isName v1 m) → (0 ≤ v1 ∧ v1 < 8))))
theorem e_House_follow {E : gh_E} {m : gh_M} (d : Nat) (v1 : Int) (hF : gh_F m) (hk : k_House_follow v1 m) : gh_C E gh_yHouse_follow prog_1_method_13_code 2 (some .int) 0 (d + 1) [(2, 2), (0, v1)] m (fun r m1 => m1 = m ∧ r = x_House_follow v1 m) := by
  refine gh_enter2 (L := [(0, 2, 2), (1, 0, v1)]) (by decide +kernel) gh_rt0 (Nat.le_of_ble_eq_true rfl) rfl rfl ?_
  unfold k_House_follow at hk
  refine gh_aload_n gd_House_follow_0 0 rfl (by decide) ?_
  refine gf_2_10 gd_House_follow_1 gh_k643 hF rfl ?_
  refine gh_zne (tgt := 11) gd_House_follow_4 (by decide) (fun c86 => ?_) (fun c86 => ?_)
  · have hz : True := trivial
    refine gh_sipush gd_House_follow_7 (by decide) (gh_r0 rfl) ?_
    refine gh_ret0 rfl gd_House_follow_10 ⟨rfl, ?_⟩
    unfold x_House_follow
    rw [if_pos c86]
  · have hz : True := trivial
    have hk := hk c86
    refine gh_aload_n gd_House_follow_11 0 rfl (by decide) ?_
    refine gh_iload_n gd_House_follow_12 1 rfl ?_
    refine cv_House_isName (d := d) gd_House_follow_13 gh_k983 hF (Nat.le_of_ble_eq_true rfl) (gh_C.pe (e_House_isName d v1 hF) ?_)
    refine gh_beq (tgt := 31) gd_House_follow_16 (by decide) (fun c87 => ?_) (fun c87 => ?_)
    · have hz : True := trivial
      have hk := hk c87
      refine gh_aload_n gd_House_follow_19 0 rfl (by decide) ?_
      refine gf_2_3 gd_House_follow_20 gh_k636 hF ?_
      refine gf_20_8 gd_House_follow_23 gh_k340 hF ?_
      refine gh_iload_n gd_House_follow_26 1 rfl ?_
      obtain ⟨q84, hk⟩ := hk
      have q85 := hk
      refine la_23 gd_House_follow_27 hF q84 q85 rfl ?_
      refine gh_goto (tgt := 34) gd_House_follow_28 (by decide) ?_
      refine gh_ret0 rfl gd_House_follow_34 ⟨rfl, ?_⟩
      unfold x_House_follow
      rw [if_neg c86, if_pos c87]
    · have hz : True := trivial
      refine gh_sipush gd_House_follow_31 (by decide) (gh_r0 rfl) ?_
      refine gh_ret0 rfl gd_House_follow_34 ⟨rfl, ?_⟩
      unfold x_House_follow
      rw [if_neg c86, if_neg c87]
def x_House_letter (v1 : Int) (m : gh_M) : Int := (if (m 2 10) = 0 then (-1003) else (if v1 < 0 then (-1001) else (if v1 < (m 26 3) then (m 27 v1) else (-1001))))
def k_House_letter (v1 : Int) (m : gh_M) : Prop := (¬ ((m 2 10) = 0) → ((¬ (v1 < 0) → (((v1 < (m 26 3)) → (0 ≤ v1 ∧ v1 < 8))))))
theorem e_House_letter {E : gh_E} {m : gh_M} (d : Nat) (v1 : Int) (hF : gh_F m) (hk : k_House_letter v1 m) : gh_C E gh_yHouse_letter prog_1_method_18_code 2 (some .int) 0 (d + 0) [(2, 2), (0, v1)] m (fun r m1 => m1 = m ∧ r = x_House_letter v1 m) := by
  refine gh_enter2 (L := [(0, 2, 2), (1, 0, v1)]) (by decide +kernel) gh_rt0 (Nat.le_of_ble_eq_true rfl) rfl rfl ?_
  unfold k_House_letter at hk
  refine gh_aload_n gd_House_letter_0 0 rfl (by decide) ?_
  refine gf_2_10 gd_House_letter_1 gh_k643 hF rfl ?_
  refine gh_zne (tgt := 11) gd_House_letter_4 (by decide) (fun c90 => ?_) (fun c90 => ?_)
  · have hz : True := trivial
    refine gh_sipush gd_House_letter_7 (by decide) (gh_r0 rfl) ?_
    refine gh_ret0 rfl gd_House_letter_10 ⟨rfl, ?_⟩
    unfold x_House_letter
    rw [if_pos c90]
  · have hz : True := trivial
    have hk := hk c90
    refine gh_iload_n gd_House_letter_11 1 rfl ?_
    refine gh_zlt (tgt := 26) gd_House_letter_12 (by decide) (fun c91 => ?_) (fun c91 => ?_)
    · have hz : True := trivial
      refine gh_sipush gd_House_letter_26 (by decide) (gh_r0 rfl) ?_
      refine gh_goto (tgt := 41) gd_House_letter_29 (by decide) ?_
      refine gh_ret0 rfl gd_House_letter_41 ⟨rfl, ?_⟩
      unfold x_House_letter
      rw [if_neg c90, if_pos c91]
    · have hz : True := trivial
      have hk := hk c91
      refine gh_iload_n gd_House_letter_15 1 rfl ?_
      refine gh_aload_n gd_House_letter_16 0 rfl (by decide) ?_
      refine gf_2_4 gd_House_letter_17 gh_k637 hF ?_
      refine gf_26_3 gd_House_letter_20 gh_k381 hF rfl ?_
      refine gh_jlt (tgt := 32) gd_House_letter_23 (by decide) (fun c92 => ?_) (fun c92 => ?_)
      · have hz : True := trivial
        have hk := hk c92
        refine gh_aload_n gd_House_letter_32 0 rfl (by decide) ?_
        refine gf_2_4 gd_House_letter_33 gh_k637 hF ?_
        refine gf_26_2 gd_House_letter_36 gh_k377 hF ?_
        refine gh_iload_n gd_House_letter_39 1 rfl ?_
        obtain ⟨q88, hk⟩ := hk
        have q89 := hk
        refine la_27 gd_House_letter_40 hF q88 q89 rfl ?_
        refine gh_ret0 rfl gd_House_letter_41 ⟨rfl, ?_⟩
        unfold x_House_letter
        rw [if_neg c90, if_neg c91, if_pos c92]
      · have hz : True := trivial
        refine gh_sipush gd_House_letter_26 (by decide) (gh_r0 rfl) ?_
        refine gh_goto (tgt := 41) gd_House_letter_29 (by decide) ?_
        refine gh_ret0 rfl gd_House_letter_41 ⟨rfl, ?_⟩
        unfold x_House_letter
        rw [if_neg c90, if_neg c91, if_neg c92]
abbrev p_House_isPlace (v1 : Int) (m : gh_M) : Prop := ¬ (v1 < 0) ∧ (v1 ≤ (m 26 3))
theorem e_House_isPlace {E : gh_E} {m : gh_M} (d : Nat) (v1 : Int) (hF : gh_F m) : gh_C E gh_yHouse_isPlace prog_1_method_36_code 2 (some .boolean) 8 (d + 0) [(2, 2), (0, v1)] m (fun r m1 => m1 = m ∧ r = (if p_House_isPlace v1 m then (1:Int) else 0)) := by
  refine gh_enter2 (L := [(0, 2, 2), (1, 0, v1)]) (by decide +kernel) gh_rt8 (Nat.le_of_ble_eq_true rfl) rfl rfl ?_
  refine gh_iload_n gd_House_isPlace_0 1 rfl ?_
  refine gh_zlt (tgt := 19) gd_House_isPlace_1 (by decide) (fun c93 => ?_) (fun c93 => ?_)
  · have hz : True := trivial
    refine gh_iconst gd_House_isPlace_19 (gh_r0 rfl) ?_
    refine gh_ret8 rfl gd_House_isPlace_20 (by decide) ⟨rfl, ?_⟩
    exact (if_neg (c := p_House_isPlace v1 m) (fun z => z.1 c93)).symm
  · have hz : True := trivial
    refine gh_iload_n gd_House_isPlace_4 1 rfl ?_
    refine gh_aload_n gd_House_isPlace_5 0 rfl (by decide) ?_
    refine gf_2_4 gd_House_isPlace_6 gh_k637 hF ?_
    refine gf_26_3 gd_House_isPlace_9 gh_k381 hF rfl ?_
    refine gh_jgt (tgt := 19) gd_House_isPlace_12 (by decide) (fun c94 => ?_) (fun c94 => ?_)
    · have hz : True := trivial
      refine gh_iconst gd_House_isPlace_15 (gh_r0 rfl) ?_
      refine gh_goto (tgt := 20) gd_House_isPlace_16 (by decide) ?_
      refine gh_ret8 rfl gd_House_isPlace_20 (by decide) ⟨rfl, ?_⟩
      exact (if_pos (c := p_House_isPlace v1 m) ⟨c93, c94⟩).symm
    · have hz : True := trivial
      refine gh_iconst gd_House_isPlace_19 (gh_r0 rfl) ?_
      refine gh_ret8 rfl gd_House_isPlace_20 (by decide) ⟨rfl, ?_⟩
      exact (if_neg (c := p_House_isPlace v1 m) (fun z => c94 z.2)).symm
abbrev p_Text_fits (v1 : Int) (v2 : Int) (m : gh_M) : Prop := ¬ (v2 < 0) ∧ ((v2 < (m 26 3)) ∧ (¬ ((gh_iand_f (gh_ishr_f v1 (m 27 v2)) 1) = 0)))
def k_Text_fits (v1 : Int) (v2 : Int) (m : gh_M) : Prop := (¬ (v2 < 0) → (((v2 < (m 26 3)) → (0 ≤ v2 ∧ v2 < 8))))
theorem e_Text_fits {E : gh_E} {m : gh_M} (d : Nat) (v1 : Int) (v2 : Int) (hF : gh_F m) (hk : k_Text_fits v1 v2 m) : gh_C E gh_yText_fits prog_11_method_2_code 3 (some .boolean) 8 (d + 0) [(2, 26), (0, v1), (0, v2)] m (fun r m1 => m1 = m ∧ r = (if p_Text_fits v1 v2 m then (1:Int) else 0)) := by
  refine gh_enter2 (L := [(0, 2, 26), (1, 0, v1), (2, 0, v2)]) (by decide +kernel) gh_rt8 (Nat.le_of_ble_eq_true rfl) rfl rfl ?_
  unfold k_Text_fits at hk
  refine gh_iload_n gd_Text_fits_0 2 rfl ?_
  refine gh_zlt (tgt := 29) gd_Text_fits_1 (by decide) (fun c97 => ?_) (fun c97 => ?_)
  · have hz : True := trivial
    refine gh_iconst gd_Text_fits_29 (gh_r0 rfl) ?_
    refine gh_ret8 rfl gd_Text_fits_30 (by decide) ⟨rfl, ?_⟩
    exact (if_neg (c := p_Text_fits v1 v2 m) (fun z => z.1 c97)).symm
  · have hz : True := trivial
    have hk := hk c97
    refine gh_iload_n gd_Text_fits_4 2 rfl ?_
    refine gh_aload_n gd_Text_fits_5 0 rfl (by decide) ?_
    refine gf_26_3 gd_Text_fits_6 gh_k378 hF rfl ?_
    refine gh_jge (tgt := 29) gd_Text_fits_9 (by decide) (fun c98 => ?_) (fun c98 => ?_)
    · have hz : True := trivial
      have hk := hk c98
      refine gh_iload_n gd_Text_fits_12 1 rfl ?_
      refine gh_aload_n gd_Text_fits_13 0 rfl (by decide) ?_
      refine gf_26_2 gd_Text_fits_14 gh_k376 hF ?_
      refine gh_iload_n gd_Text_fits_17 2 rfl ?_
      obtain ⟨q95, hk⟩ := hk
      have q96 := hk
      refine la_27 gd_Text_fits_18 hF q95 q96 rfl ?_
      refine gh_ishr gd_Text_fits_19 ?_
      refine gh_iconst gd_Text_fits_20 (gh_r0 rfl) ?_
      refine gh_iand gd_Text_fits_21 ?_
      refine gh_zeq (tgt := 29) gd_Text_fits_22 (by decide) (fun c99 => ?_) (fun c99 => ?_)
      · have hz : True := trivial
        refine gh_iconst gd_Text_fits_29 (gh_r0 rfl) ?_
        refine gh_ret8 rfl gd_Text_fits_30 (by decide) ⟨rfl, ?_⟩
        exact (if_neg (c := p_Text_fits v1 v2 m) (fun z => (fun z => (not_not_intro c99) z.2) z.2)).symm
      · have hz : True := trivial
        refine gh_iconst gd_Text_fits_25 (gh_r0 rfl) ?_
        refine gh_goto (tgt := 30) gd_Text_fits_26 (by decide) ?_
        refine gh_ret8 rfl gd_Text_fits_30 (by decide) ⟨rfl, ?_⟩
        exact (if_pos (c := p_Text_fits v1 v2 m) ⟨c97, ⟨c98, c99⟩⟩).symm
    · have hz : True := trivial
      refine gh_iconst gd_Text_fits_29 (gh_r0 rfl) ?_
      refine gh_ret8 rfl gd_Text_fits_30 (by decide) ⟨rfl, ?_⟩
      exact (if_neg (c := p_Text_fits v1 v2 m) (fun z => (fun z => c98 z.1) z.2)).symm
abbrev p_Chart_covers (v1 : Int) (v2 : Int) (v3 : Int) (m : gh_M) : Prop := ¬ ((gh_iand_f (gh_ishr_f (m 31 ((v1 * 9) + v2)) v3) 1) = 0)
def k_Chart_covers (v1 : Int) (v2 : Int) (v3 : Int) : Prop := gh_i (v1 * 9) ∧ gh_i ((v1 * 9) + v2) ∧ 0 ≤ (v1 * 9) + v2 ∧ ((v1 * 9) + v2) < 72
theorem e_Chart_covers {E : gh_E} {m : gh_M} (d : Nat) (v1 : Int) (v2 : Int) (v3 : Int) (hF : gh_F m) (hk : k_Chart_covers v1 v2 v3) : gh_C E gh_yChart_covers prog_2_method_2_code 4 (some .boolean) 8 (d + 0) [(2, 30), (0, v1), (0, v2), (0, v3)] m (fun r m1 => m1 = m ∧ r = (if p_Chart_covers v1 v2 v3 m then (1:Int) else 0)) := by
  refine gh_enter2 (L := [(0, 2, 30), (1, 0, v1), (2, 0, v2), (3, 0, v3)]) (by decide +kernel) gh_rt8 (Nat.le_of_ble_eq_true rfl) rfl rfl ?_
  unfold k_Chart_covers at hk
  refine gh_aload_n gd_Chart_covers_0 0 rfl (by decide) ?_
  refine gf_30_4 gd_Chart_covers_1 gh_k418 hF ?_
  refine gh_iload_n gd_Chart_covers_4 1 rfl ?_
  refine gh_bipush gd_Chart_covers_5 (by decide) (gh_r0 rfl) ?_
  obtain ⟨q100, hk⟩ := hk
  refine gh_imul gd_Chart_covers_7 q100 ?_
  refine gh_iload_n gd_Chart_covers_8 2 rfl ?_
  obtain ⟨q101, hk⟩ := hk
  refine gh_iadd gd_Chart_covers_9 q101 ?_
  obtain ⟨q102, hk⟩ := hk
  have q103 := hk
  refine la_31 gd_Chart_covers_10 hF q102 q103 rfl ?_
  refine gh_iload_n gd_Chart_covers_11 3 rfl ?_
  refine gh_ishr gd_Chart_covers_12 ?_
  refine gh_iconst gd_Chart_covers_13 (gh_r0 rfl) ?_
  refine gh_iand gd_Chart_covers_14 ?_
  refine gh_zeq (tgt := 22) gd_Chart_covers_15 (by decide) (fun c104 => ?_) (fun c104 => ?_)
  · have hz : True := trivial
    refine gh_iconst gd_Chart_covers_22 (gh_r0 rfl) ?_
    refine gh_ret8 rfl gd_Chart_covers_23 (by decide) ⟨rfl, ?_⟩
    exact (if_neg (c := p_Chart_covers v1 v2 v3 m) (not_not_intro c104)).symm
  · have hz : True := trivial
    refine gh_iconst gd_Chart_covers_18 (gh_r0 rfl) ?_
    refine gh_goto (tgt := 23) gd_Chart_covers_19 (by decide) ?_
    refine gh_ret8 rfl gd_Chart_covers_23 (by decide) ⟨rfl, ?_⟩
    exact (if_pos (c := p_Chart_covers v1 v2 v3 m) c104).symm
theorem e_Wants_costAt {E : gh_E} {m : gh_M} (d : Nat) (v0 : Int) (v1 : Int) (v2 : Int) (hk : gh_i (v0 * 9) ∧ gh_i ((v0 * 9) + v1) ∧ gh_i (((v0 * 9) + v1) * 9) ∧ gh_i ((((v0 * 9) + v1) * 9) + v2)) : gh_C E gh_yWants_costAt prog_12_method_8_code 3 (some .int) 0 (d + 0) [(0, v0), (0, v1), (0, v2)] m (fun r m1 => m1 = m ∧ r = ((((v0 * 9) + v1) * 9) + v2)) := by
  refine gh_enter2 (L := [(0, 0, v0), (1, 0, v1), (2, 0, v2)]) (by decide +kernel) gh_rt0 (Nat.le_of_ble_eq_true rfl) rfl rfl ?_
  refine gh_iload_n gd_Wants_costAt_0 0 rfl ?_
  refine gh_bipush gd_Wants_costAt_1 (by decide) (gh_r0 rfl) ?_
  obtain ⟨q105, hk⟩ := hk
  refine gh_imul gd_Wants_costAt_3 q105 ?_
  refine gh_iload_n gd_Wants_costAt_4 1 rfl ?_
  obtain ⟨q106, hk⟩ := hk
  refine gh_iadd gd_Wants_costAt_5 q106 ?_
  refine gh_bipush gd_Wants_costAt_6 (by decide) (gh_r0 rfl) ?_
  obtain ⟨q107, hk⟩ := hk
  refine gh_imul gd_Wants_costAt_8 q107 ?_
  refine gh_iload_n gd_Wants_costAt_9 2 rfl ?_
  have q108 := hk
  refine gh_iadd gd_Wants_costAt_10 q108 ?_
  refine gh_ret0 rfl gd_Wants_costAt_11 ⟨rfl, ?_⟩
  rfl
theorem e_Forest_plainAt {E : gh_E} {m : gh_M} (d : Nat) (v0 : Int) (v1 : Int) (v2 : Int) (hk : gh_i (v0 * 9) ∧ gh_i ((v0 * 9) + v1) ∧ gh_i (((v0 * 9) + v1) * 9) ∧ gh_i ((((v0 * 9) + v1) * 9) + v2)) : gh_C E gh_yForest_plainAt prog_5_method_6_code 3 (some .int) 0 (d + 0) [(0, v0), (0, v1), (0, v2)] m (fun r m1 => m1 = m ∧ r = ((((v0 * 9) + v1) * 9) + v2)) := by
  refine gh_enter2 (L := [(0, 0, v0), (1, 0, v1), (2, 0, v2)]) (by decide +kernel) gh_rt0 (Nat.le_of_ble_eq_true rfl) rfl rfl ?_
  refine gh_iload_n gd_Forest_plainAt_0 0 rfl ?_
  refine gh_bipush gd_Forest_plainAt_1 (by decide) (gh_r0 rfl) ?_
  obtain ⟨q109, hk⟩ := hk
  refine gh_imul gd_Forest_plainAt_3 q109 ?_
  refine gh_iload_n gd_Forest_plainAt_4 1 rfl ?_
  obtain ⟨q110, hk⟩ := hk
  refine gh_iadd gd_Forest_plainAt_5 q110 ?_
  refine gh_bipush gd_Forest_plainAt_6 (by decide) (gh_r0 rfl) ?_
  obtain ⟨q111, hk⟩ := hk
  refine gh_imul gd_Forest_plainAt_8 q111 ?_
  refine gh_iload_n gd_Forest_plainAt_9 2 rfl ?_
  have q112 := hk
  refine gh_iadd gd_Forest_plainAt_10 q112 ?_
  refine gh_ret0 rfl gd_Forest_plainAt_11 ⟨rfl, ?_⟩
  rfl
theorem e_Forest_underAt {E : gh_E} {m : gh_M} (d : Nat) (v0 : Int) (v1 : Int) (v2 : Int) (v3 : Int) (hk : ((v1 = v2) → (gh_i (0 + v0) ∧ gh_i ((0 + v0) * 256) ∧ gh_i (((0 + v0) * 256) + v3))) ∧ (¬ (v1 = v2) → (gh_i (8 + v0) ∧ gh_i ((8 + v0) * 256) ∧ gh_i (((8 + v0) * 256) + v3)))) : gh_C E gh_yForest_underAt prog_5_method_10_code 4 (some .int) 0 (d + 0) [(0, v0), (0, v1), (0, v2), (0, v3)] m (fun r m1 => m1 = m ∧ r = (if v1 = v2 then (((0 + v0) * 256) + v3) else (((8 + v0) * 256) + v3))) := by
  refine gh_enter2 (L := [(0, 0, v0), (1, 0, v1), (2, 0, v2), (3, 0, v3)]) (by decide +kernel) gh_rt0 (Nat.le_of_ble_eq_true rfl) rfl rfl ?_
  refine gh_iload_n gd_Forest_underAt_0 1 rfl ?_
  refine gh_iload_n gd_Forest_underAt_1 2 rfl ?_
  refine gh_jne (tgt := 9) gd_Forest_underAt_2 (by decide) (fun c119 => ?_) (fun c119 => ?_)
  · have hz : True := trivial
    have hk := hk.1 c119
    refine gh_iconst gd_Forest_underAt_5 (gh_r0 rfl) ?_
    refine gh_goto (tgt := 11) gd_Forest_underAt_6 (by decide) ?_
    refine gh_iload_n gd_Forest_underAt_11 0 rfl ?_
    obtain ⟨q113, hk⟩ := hk
    refine gh_iadd gd_Forest_underAt_12 q113 ?_
    refine gh_sipush gd_Forest_underAt_13 (by decide) (gh_r0 rfl) ?_
    obtain ⟨q114, hk⟩ := hk
    refine gh_imul gd_Forest_underAt_16 q114 ?_
    refine gh_iload_n gd_Forest_underAt_17 3 rfl ?_
    have q115 := hk
    refine gh_iadd gd_Forest_underAt_18 q115 ?_
    refine gh_ret0 rfl gd_Forest_underAt_19 ⟨rfl, ?_⟩
    skip
    rw [if_pos c119]
  · have hz : True := trivial
    have hk := hk.2 c119
    refine gh_bipush gd_Forest_underAt_9 (by decide) (gh_r0 rfl) ?_
    refine gh_iload_n gd_Forest_underAt_11 0 rfl ?_
    obtain ⟨q116, hk⟩ := hk
    refine gh_iadd gd_Forest_underAt_12 q116 ?_
    refine gh_sipush gd_Forest_underAt_13 (by decide) (gh_r0 rfl) ?_
    obtain ⟨q117, hk⟩ := hk
    refine gh_imul gd_Forest_underAt_16 q117 ?_
    refine gh_iload_n gd_Forest_underAt_17 3 rfl ?_
    have q118 := hk
    refine gh_iadd gd_Forest_underAt_18 q118 ?_
    refine gh_ret0 rfl gd_Forest_underAt_19 ⟨rfl, ?_⟩
    skip
    rw [if_neg c119]
def x_Forest_times (v0 : Int) (v2 : Int) : Int := (if v0 = 0 then 0 else (if v2 = 0 then 0 else (if v0 ≤ (1000000000000000000 / v2) then (min (v0 * v2) 1000000000000000000) else 1000000000000000000)))
def k_Forest_times (v0 : Int) (v2 : Int) : Prop := (¬ (v0 = 0) → ((¬ (v2 = 0) → (0 < v2 ∧ ((v0 ≤ (1000000000000000000 / v2)) → (gh_j (v0 * v2)))))))
theorem e_Forest_times {E : gh_E} {m : gh_M} (d : Nat) (v0 : Int) (v2 : Int) (hk : k_Forest_times v0 v2) : gh_C E gh_yForest_times prog_5_method_15_code 4 (some .long) 1 (d + 1) [(1, v0), (1, v2)] m (fun r m1 => m1 = m ∧ r = x_Forest_times v0 v2) := by
  refine gh_enter2 (L := [(0, 1, v0), (2, 1, v2)]) (by decide +kernel) gh_rt1 (Nat.le_of_ble_eq_true rfl) rfl rfl ?_
  unfold k_Forest_times at hk
  refine gh_lload_n gd_Forest_times_0 0 rfl ?_
  refine gh_lconst (n := 0) gd_Forest_times_1 (by decide) (gh_r1 rfl) ?_
  refine gh_lcmp gd_Forest_times_2 ?_
  refine gh_ceq (tgt := 12) gd_Forest_times_3 (by decide) (fun c122 => ?_) (fun c122 => ?_)
  · have hz : True := trivial
    refine gh_lconst (n := 0) gd_Forest_times_12 (by decide) (gh_r1 rfl) ?_
    refine gh_ret1 rfl gd_Forest_times_13 ⟨rfl, ?_⟩
    unfold x_Forest_times
    rw [if_pos c122]
  · have hz : True := trivial
    have hk := hk c122
    refine gh_lload_n gd_Forest_times_6 1 rfl ?_
    refine gh_lconst (n := 0) gd_Forest_times_7 (by decide) (gh_r1 rfl) ?_
    refine gh_lcmp gd_Forest_times_8 ?_
    refine gh_cne (tgt := 14) gd_Forest_times_9 (by decide) (fun c123 => ?_) (fun c123 => ?_)
    · have hz : True := trivial
      refine gh_lconst (n := 0) gd_Forest_times_12 (by decide) (gh_r1 rfl) ?_
      refine gh_ret1 rfl gd_Forest_times_13 ⟨rfl, ?_⟩
      unfold x_Forest_times
      rw [if_neg c122, if_pos c123]
    · have hz : True := trivial
      have hk := hk c123
      refine gh_lload_n gd_Forest_times_14 0 rfl ?_
      refine gh_ldc2 (n := 1000000000000000000) gd_Forest_times_15 gh_k1237 (by decide) (gh_r1 rfl) ?_
      refine gh_lload_n gd_Forest_times_18 1 rfl ?_
      obtain ⟨q120, hk⟩ := hk
      refine gh_ldiv gd_Forest_times_19 (by decide) q120 ?_
      refine gh_lcmp gd_Forest_times_20 ?_
      refine gh_cle (tgt := 30) gd_Forest_times_21 (by decide) (fun c124 => ?_) (fun c124 => ?_)
      · have hz : True := trivial
        have hk := hk c124
        refine gh_lload_n gd_Forest_times_30 0 rfl ?_
        refine gh_lload_n gd_Forest_times_31 1 rfl ?_
        have q121 := hk
        refine gh_lmul gd_Forest_times_32 q121 ?_
        refine gh_ldc2 (n := 1000000000000000000) gd_Forest_times_33 gh_k1237 (by decide) (gh_r1 rfl) ?_
        refine gh_pr_minJ gd_Forest_times_36 gh_k1238 (Nat.le_of_ble_eq_true rfl) ?_
        refine gh_ret1 rfl gd_Forest_times_39 ⟨rfl, ?_⟩
        unfold x_Forest_times
        rw [if_neg c122, if_neg c123, if_pos c124]
      · have hz : True := trivial
        refine gh_ldc2 (n := 1000000000000000000) gd_Forest_times_24 gh_k1237 (by decide) (gh_r1 rfl) ?_
        refine gh_goto (tgt := 39) gd_Forest_times_27 (by decide) ?_
        refine gh_ret1 rfl gd_Forest_times_39 ⟨rfl, ?_⟩
        unfold x_Forest_times
        rw [if_neg c122, if_neg c123, if_neg c124]
def x_Forest_plus (v0 : Int) (v2 : Int) : Int := (min (v0 + v2) 1000000000000000000)
def k_Forest_plus (v0 : Int) (v2 : Int) : Prop := gh_j (v0 + v2)
theorem e_Forest_plus {E : gh_E} {m : gh_M} (d : Nat) (v0 : Int) (v2 : Int) (hk : k_Forest_plus v0 v2) : gh_C E gh_yForest_plus prog_5_method_14_code 4 (some .long) 1 (d + 1) [(1, v0), (1, v2)] m (fun r m1 => m1 = m ∧ r = x_Forest_plus v0 v2) := by
  refine gh_enter2 (L := [(0, 1, v0), (2, 1, v2)]) (by decide +kernel) gh_rt1 (Nat.le_of_ble_eq_true rfl) rfl rfl ?_
  unfold k_Forest_plus at hk
  refine gh_lload_n gd_Forest_plus_0 0 rfl ?_
  refine gh_lload_n gd_Forest_plus_1 1 rfl ?_
  have q125 := hk
  refine gh_ladd gd_Forest_plus_2 q125 ?_
  refine gh_ldc2 (n := 1000000000000000000) gd_Forest_plus_3 gh_k1237 (by decide) (gh_r1 rfl) ?_
  refine gh_pr_minJ gd_Forest_plus_6 gh_k1238 (Nat.le_of_ble_eq_true rfl) ?_
  refine gh_ret1 rfl gd_Forest_plus_9 ⟨rfl, ?_⟩
  rfl
def x_Forest_restAt (v1 : Int) (v2 : Int) (m : gh_M) : Int := (m 43 ((v1 * 9) + v2))
def k_Forest_restAt (v1 : Int) (v2 : Int) : Prop := gh_i (v1 * 9) ∧ gh_i ((v1 * 9) + v2) ∧ 0 ≤ (v1 * 9) + v2 ∧ ((v1 * 9) + v2) < 360
theorem e_Forest_restAt {E : gh_E} {m : gh_M} (d : Nat) (v1 : Int) (v2 : Int) (hF : gh_F m) (hk : k_Forest_restAt v1 v2) : gh_C E gh_yForest_restAt prog_5_method_12_code 3 (some .long) 1 (d + 0) [(2, 41), (0, v1), (0, v2)] m (fun r m1 => m1 = m ∧ r = x_Forest_restAt v1 v2 m) := by
  refine gh_enter2 (L := [(0, 2, 41), (1, 0, v1), (2, 0, v2)]) (by decide +kernel) gh_rt1 (Nat.le_of_ble_eq_true rfl) rfl rfl ?_
  unfold k_Forest_restAt at hk
  refine gh_aload_n gd_Forest_restAt_0 0 rfl (by decide) ?_
  refine gf_41_5 gd_Forest_restAt_1 gh_k492 hF ?_
  refine gh_iload_n gd_Forest_restAt_4 1 rfl ?_
  refine gh_bipush gd_Forest_restAt_5 (by decide) (gh_r0 rfl) ?_
  obtain ⟨q126, hk⟩ := hk
  refine gh_imul gd_Forest_restAt_7 q126 ?_
  refine gh_iload_n gd_Forest_restAt_8 2 rfl ?_
  obtain ⟨q127, hk⟩ := hk
  refine gh_iadd gd_Forest_restAt_9 q127 ?_
  obtain ⟨q128, hk⟩ := hk
  have q129 := hk
  refine la_43 gd_Forest_restAt_10 hF q128 q129 rfl ?_
  refine gh_ret1 rfl gd_Forest_restAt_11 ⟨rfl, ?_⟩
  rfl
def x_Text_letterAt (v1 : Int) (m : gh_M) : Int := (if v1 < 0 then (-1) else (if v1 < (m 26 3) then (m 27 v1) else (-1)))
def k_Text_letterAt (v1 : Int) (m : gh_M) : Prop := (¬ (v1 < 0) → (((v1 < (m 26 3)) → (0 ≤ v1 ∧ v1 < 8))))
theorem e_Text_letterAt {E : gh_E} {m : gh_M} (d : Nat) (v1 : Int) (hF : gh_F m) (hk : k_Text_letterAt v1 m) : gh_C E gh_yText_letterAt prog_11_method_3_code 2 (some .int) 0 (d + 0) [(2, 26), (0, v1)] m (fun r m1 => m1 = m ∧ r = x_Text_letterAt v1 m) := by
  refine gh_enter2 (L := [(0, 2, 26), (1, 0, v1)]) (by decide +kernel) gh_rt0 (Nat.le_of_ble_eq_true rfl) rfl rfl ?_
  unfold k_Text_letterAt at hk
  refine gh_iload_n gd_Text_letterAt_0 1 rfl ?_
  refine gh_zlt (tgt := 21) gd_Text_letterAt_1 (by decide) (fun c132 => ?_) (fun c132 => ?_)
  · have hz : True := trivial
    refine gh_iconst gd_Text_letterAt_21 (gh_r0 rfl) ?_
    refine gh_ret0 rfl gd_Text_letterAt_22 ⟨rfl, ?_⟩
    unfold x_Text_letterAt
    rw [if_pos c132]
  · have hz : True := trivial
    have hk := hk c132
    refine gh_iload_n gd_Text_letterAt_4 1 rfl ?_
    refine gh_aload_n gd_Text_letterAt_5 0 rfl (by decide) ?_
    refine gf_26_3 gd_Text_letterAt_6 gh_k378 hF rfl ?_
    refine gh_jge (tgt := 21) gd_Text_letterAt_9 (by decide) (fun c133 => ?_) (fun c133 => ?_)
    · have hz : True := trivial
      have hk := hk c133
      refine gh_aload_n gd_Text_letterAt_12 0 rfl (by decide) ?_
      refine gf_26_2 gd_Text_letterAt_13 gh_k376 hF ?_
      refine gh_iload_n gd_Text_letterAt_16 1 rfl ?_
      obtain ⟨q130, hk⟩ := hk
      have q131 := hk
      refine la_27 gd_Text_letterAt_17 hF q130 q131 rfl ?_
      refine gh_goto (tgt := 22) gd_Text_letterAt_18 (by decide) ?_
      refine gh_ret0 rfl gd_Text_letterAt_22 ⟨rfl, ?_⟩
      unfold x_Text_letterAt
      rw [if_neg c132, if_pos c133]
    · have hz : True := trivial
      refine gh_iconst gd_Text_letterAt_21 (gh_r0 rfl) ?_
      refine gh_ret0 rfl gd_Text_letterAt_22 ⟨rfl, ?_⟩
      unfold x_Text_letterAt
      rw [if_neg c132, if_neg c133]
def x_House_step (v1 : Int) (m : gh_M) : Int := (if (m 2 10) = 0 then (-1003) else (if (m 47 4) = 0 then (-1003) else (if v1 < 0 then (-1001) else (if v1 < (m 47 4) then (m 48 v1) else (-1001)))))
def k_House_step (v1 : Int) (m : gh_M) : Prop := (¬ ((m 2 10) = 0) → ((¬ ((m 47 4) = 0) → ((¬ (v1 < 0) → (((v1 < (m 47 4)) → (0 ≤ v1 ∧ v1 < 300))))))))
theorem e_House_step {E : gh_E} {m : gh_M} (d : Nat) (v1 : Int) (hF : gh_F m) (hk : k_House_step v1 m) : gh_C E gh_yHouse_step prog_1_method_28_code 2 (some .int) 0 (d + 0) [(2, 2), (0, v1)] m (fun r m1 => m1 = m ∧ r = x_House_step v1 m) := by
  refine gh_enter2 (L := [(0, 2, 2), (1, 0, v1)]) (by decide +kernel) gh_rt0 (Nat.le_of_ble_eq_true rfl) rfl rfl ?_
  unfold k_House_step at hk
  refine gh_aload_n gd_House_step_0 0 rfl (by decide) ?_
  refine gf_2_10 gd_House_step_1 gh_k643 hF rfl ?_
  refine gh_zeq (tgt := 17) gd_House_step_4 (by decide) (fun c136 => ?_) (fun c136 => ?_)
  · have hz : True := trivial
    refine gh_sipush gd_House_step_17 (by decide) (gh_r0 rfl) ?_
    refine gh_ret0 rfl gd_House_step_20 ⟨rfl, ?_⟩
    unfold x_House_step
    rw [if_pos c136]
  · have hz : True := trivial
    have hk := hk c136
    refine gh_aload_n gd_House_step_7 0 rfl (by decide) ?_
    refine gf_2_8 gd_House_step_8 gh_k641 hF ?_
    refine gf_47_4 gd_House_step_11 gh_k537 hF rfl ?_
    refine gh_zne (tgt := 21) gd_House_step_14 (by decide) (fun c137 => ?_) (fun c137 => ?_)
    · have hz : True := trivial
      refine gh_sipush gd_House_step_17 (by decide) (gh_r0 rfl) ?_
      refine gh_ret0 rfl gd_House_step_20 ⟨rfl, ?_⟩
      unfold x_House_step
      rw [if_neg c136, if_pos c137]
    · have hz : True := trivial
      have hk := hk c137
      refine gh_iload_n gd_House_step_21 1 rfl ?_
      refine gh_zlt (tgt := 36) gd_House_step_22 (by decide) (fun c138 => ?_) (fun c138 => ?_)
      · have hz : True := trivial
        refine gh_sipush gd_House_step_36 (by decide) (gh_r0 rfl) ?_
        refine gh_goto (tgt := 51) gd_House_step_39 (by decide) ?_
        refine gh_ret0 rfl gd_House_step_51 ⟨rfl, ?_⟩
        unfold x_House_step
        rw [if_neg c136, if_neg c137, if_pos c138]
      · have hz : True := trivial
        have hk := hk c138
        refine gh_iload_n gd_House_step_25 1 rfl ?_
        refine gh_aload_n gd_House_step_26 0 rfl (by decide) ?_
        refine gf_2_8 gd_House_step_27 gh_k641 hF ?_
        refine gf_47_4 gd_House_step_30 gh_k537 hF rfl ?_
        refine gh_jlt (tgt := 42) gd_House_step_33 (by decide) (fun c139 => ?_) (fun c139 => ?_)
        · have hz : True := trivial
          have hk := hk c139
          refine gh_aload_n gd_House_step_42 0 rfl (by decide) ?_
          refine gf_2_8 gd_House_step_43 gh_k641 hF ?_
          refine gf_47_3 gd_House_step_46 gh_k535 hF ?_
          refine gh_iload_n gd_House_step_49 1 rfl ?_
          obtain ⟨q134, hk⟩ := hk
          have q135 := hk
          refine la_48 gd_House_step_50 hF q134 q135 rfl ?_
          refine gh_ret0 rfl gd_House_step_51 ⟨rfl, ?_⟩
          unfold x_House_step
          rw [if_neg c136, if_neg c137, if_neg c138, if_pos c139]
        · have hz : True := trivial
          refine gh_sipush gd_House_step_36 (by decide) (gh_r0 rfl) ?_
          refine gh_goto (tgt := 51) gd_House_step_39 (by decide) ?_
          refine gh_ret0 rfl gd_House_step_51 ⟨rfl, ?_⟩
          unfold x_House_step
          rw [if_neg c136, if_neg c137, if_neg c138, if_neg c139]
def x_House_deep (m : gh_M) : Int := (if (m 2 10) = 0 then (-1003) else (if (m 47 4) ≤ 0 then (-1003) else (m 47 5)))
theorem e_House_deep {E : gh_E} {m : gh_M} (d : Nat) (hF : gh_F m) : gh_C E gh_yHouse_deep prog_1_method_29_code 1 (some .int) 0 (d + 0) [(2, 2)] m (fun r m1 => m1 = m ∧ r = x_House_deep m) := by
  refine gh_enter2 (L := [(0, 2, 2)]) (by decide +kernel) gh_rt0 (Nat.le_of_ble_eq_true rfl) rfl rfl ?_
  refine gh_aload_n gd_House_deep_0 0 rfl (by decide) ?_
  refine gf_2_10 gd_House_deep_1 gh_k643 hF rfl ?_
  refine gh_zeq (tgt := 27) gd_House_deep_4 (by decide) (fun c140 => ?_) (fun c140 => ?_)
  · have hz : True := trivial
    refine gh_sipush gd_House_deep_27 (by decide) (gh_r0 rfl) ?_
    refine gh_ret0 rfl gd_House_deep_30 ⟨rfl, ?_⟩
    unfold x_House_deep
    rw [if_pos c140]
  · have hz : True := trivial
    refine gh_aload_n gd_House_deep_7 0 rfl (by decide) ?_
    refine gf_2_8 gd_House_deep_8 gh_k641 hF ?_
    refine gf_47_4 gd_House_deep_11 gh_k537 hF rfl ?_
    refine gh_zle (tgt := 27) gd_House_deep_14 (by decide) (fun c141 => ?_) (fun c141 => ?_)
    · have hz : True := trivial
      refine gh_sipush gd_House_deep_27 (by decide) (gh_r0 rfl) ?_
      refine gh_ret0 rfl gd_House_deep_30 ⟨rfl, ?_⟩
      unfold x_House_deep
      rw [if_neg c140, if_pos c141]
    · have hz : True := trivial
      refine gh_aload_n gd_House_deep_17 0 rfl (by decide) ?_
      refine gf_2_8 gd_House_deep_18 gh_k641 hF ?_
      refine gf_47_5 gd_House_deep_21 gh_k539 hF rfl ?_
      refine gh_goto (tgt := 30) gd_House_deep_24 (by decide) ?_
      refine gh_ret0 rfl gd_House_deep_30 ⟨rfl, ?_⟩
      unfold x_House_deep
      rw [if_neg c140, if_neg c141]
def x_House_mix (v0 : Int) (v2 : Int) : Int := (Int64.ofInt (Int64.ofInt 31 * Int64.ofInt v0).toInt + Int64.ofInt v2).toInt
theorem e_House_mix {E : gh_E} {m : gh_M} (d : Nat) (v0 : Int) (v2 : Int) : gh_C E gh_yHouse_mix prog_1_method_33_code 4 (some .long) 1 (d + 0) [(1, v0), (1, v2)] m (fun r m1 => m1 = m ∧ r = x_House_mix v0 v2) := by
  refine gh_enter2 (L := [(0, 1, v0), (2, 1, v2)]) (by decide +kernel) gh_rt1 (Nat.le_of_ble_eq_true rfl) rfl rfl ?_
  refine gh_ldc2 (n := 31) gd_House_mix_0 gh_k1355 (by decide) (gh_r1 rfl) ?_
  refine gh_lload_n gd_House_mix_3 0 rfl ?_
  refine gh_wlmul gd_House_mix_4 ?_
  refine gh_lload_n gd_House_mix_5 1 rfl ?_
  refine gh_wladd gd_House_mix_6 ?_
  refine gh_ret1 rfl gd_House_mix_7 ⟨rfl, ?_⟩
  rfl
theorem e_Model_in {E : gh_E} {m : gh_M} (d : Nat) (v0 : Int) (v1 : Int) (v2 : Int) : gh_C E gh_yModel_in prog_14_method_2_code 3 (some .boolean) 8 (d + 0) [(0, v0), (0, v1), (0, v2)] m (fun r m1 => m1 = m ∧ r = (if ¬ (v0 < v1) ∧ (v0 ≤ v2) then (1:Int) else 0)) := by
  refine gh_enter2 (L := [(0, 0, v0), (1, 0, v1), (2, 0, v2)]) (by decide +kernel) gh_rt8 (Nat.le_of_ble_eq_true rfl) rfl rfl ?_
  refine gh_iload_n gd_Model_in_0 0 rfl ?_
  refine gh_iload_n gd_Model_in_1 1 rfl ?_
  refine gh_jlt (tgt := 14) gd_Model_in_2 (by decide) (fun c142 => ?_) (fun c142 => ?_)
  · have hz : True := trivial
    refine gh_iconst gd_Model_in_14 (gh_r0 rfl) ?_
    refine gh_ret8 rfl gd_Model_in_15 (by decide) ⟨rfl, ?_⟩
    exact (if_neg (c := ¬ (v0 < v1) ∧ (v0 ≤ v2)) (fun z => z.1 c142)).symm
  · have hz : True := trivial
    refine gh_iload_n gd_Model_in_5 0 rfl ?_
    refine gh_iload_n gd_Model_in_6 2 rfl ?_
    refine gh_jgt (tgt := 14) gd_Model_in_7 (by decide) (fun c143 => ?_) (fun c143 => ?_)
    · have hz : True := trivial
      refine gh_iconst gd_Model_in_10 (gh_r0 rfl) ?_
      refine gh_goto (tgt := 15) gd_Model_in_11 (by decide) ?_
      refine gh_ret8 rfl gd_Model_in_15 (by decide) ⟨rfl, ?_⟩
      exact (if_pos (c := ¬ (v0 < v1) ∧ (v0 ≤ v2)) ⟨c142, c143⟩).symm
    · have hz : True := trivial
      refine gh_iconst gd_Model_in_14 (gh_r0 rfl) ?_
      refine gh_ret8 rfl gd_Model_in_15 (by decide) ⟨rfl, ?_⟩
      exact (if_neg (c := ¬ (v0 < v1) ∧ (v0 ≤ v2)) (fun z => c143 z.2)).symm
def x_Model_sign (v1 : Int) (m : gh_M) : Int := (if (¬ (v1 < 0) ∧ (v1 ≤ ((m 63 1) - 1))) then (m 64 v1) else (-1001))
def k_Model_sign (v1 : Int) (m : gh_M) : Prop := gh_i ((m 63 1) - 1) ∧ (((¬ (v1 < 0) ∧ (v1 ≤ ((m 63 1) - 1)))) → (0 ≤ v1 ∧ v1 < 240))
theorem e_Model_sign {E : gh_E} {m : gh_M} (d : Nat) (v1 : Int) (hF : gh_F m) (hk : k_Model_sign v1 m) : gh_C E gh_yModel_sign prog_14_method_8_code 2 (some .int) 0 (d + 1) [(2, 63), (0, v1)] m (fun r m1 => m1 = m ∧ r = x_Model_sign v1 m) := by
  refine gh_enter2 (L := [(0, 2, 63), (1, 0, v1)]) (by decide +kernel) gh_rt0 (Nat.le_of_ble_eq_true rfl) rfl rfl ?_
  unfold k_Model_sign at hk
  refine gh_iload_n gd_Model_sign_0 1 rfl ?_
  refine gh_iconst gd_Model_sign_1 (gh_r0 rfl) ?_
  refine gh_aload_n gd_Model_sign_2 0 rfl (by decide) ?_
  refine gf_63_1 gd_Model_sign_3 gh_k1368 hF rfl ?_
  refine gh_iconst gd_Model_sign_6 (gh_r0 rfl) ?_
  obtain ⟨q144, hk⟩ := hk
  refine gh_isub gd_Model_sign_7 q144 ?_
  refine cv_Model_in (d := d) gd_Model_sign_8 gh_k1628 (Nat.le_of_ble_eq_true rfl) (gh_C.pe (e_Model_in d v1 0 ((m 63 1) - 1)) ?_)
  refine gh_beq (tgt := 23) gd_Model_sign_11 (by decide) (fun c147 => ?_) (fun c147 => ?_)
  · have hz : True := trivial
    have hk := hk c147
    refine gh_aload_n gd_Model_sign_14 0 rfl (by decide) ?_
    refine gf_63_0 gd_Model_sign_15 gh_k1367 hF ?_
    refine gh_iload_n gd_Model_sign_18 1 rfl ?_
    obtain ⟨q145, hk⟩ := hk
    have q146 := hk
    refine la_64 gd_Model_sign_19 hF q145 q146 rfl ?_
    refine gh_goto (tgt := 26) gd_Model_sign_20 (by decide) ?_
    refine gh_ret0 rfl gd_Model_sign_26 ⟨rfl, ?_⟩
    unfold x_Model_sign
    rw [if_pos c147]
  · have hz : True := trivial
    refine gh_sipush gd_Model_sign_23 (by decide) (gh_r0 rfl) ?_
    refine gh_ret0 rfl gd_Model_sign_26 ⟨rfl, ?_⟩
    unfold x_Model_sign
    rw [if_neg c147]
def x_Model_signAt (v1 : Int) (m : gh_M) : Int := (if (¬ (v1 < 0) ∧ (v1 ≤ ((m 63 1) - 1))) then (m 64 v1) else 0)
def k_Model_signAt (v1 : Int) (m : gh_M) : Prop := gh_i ((m 63 1) - 1) ∧ (((¬ (v1 < 0) ∧ (v1 ≤ ((m 63 1) - 1)))) → (0 ≤ v1 ∧ v1 < 240))
theorem e_Model_signAt {E : gh_E} {m : gh_M} (d : Nat) (v1 : Int) (hF : gh_F m) (hk : k_Model_signAt v1 m) : gh_C E gh_yModel_signAt prog_14_method_9_code 2 (some .int) 0 (d + 1) [(2, 63), (0, v1)] m (fun r m1 => m1 = m ∧ r = x_Model_signAt v1 m) := by
  refine gh_enter2 (L := [(0, 2, 63), (1, 0, v1)]) (by decide +kernel) gh_rt0 (Nat.le_of_ble_eq_true rfl) rfl rfl ?_
  unfold k_Model_signAt at hk
  refine gh_iload_n gd_Model_signAt_0 1 rfl ?_
  refine gh_iconst gd_Model_signAt_1 (gh_r0 rfl) ?_
  refine gh_aload_n gd_Model_signAt_2 0 rfl (by decide) ?_
  refine gf_63_1 gd_Model_signAt_3 gh_k1368 hF rfl ?_
  refine gh_iconst gd_Model_signAt_6 (gh_r0 rfl) ?_
  obtain ⟨q148, hk⟩ := hk
  refine gh_isub gd_Model_signAt_7 q148 ?_
  refine cv_Model_in (d := d) gd_Model_signAt_8 gh_k1628 (Nat.le_of_ble_eq_true rfl) (gh_C.pe (e_Model_in d v1 0 ((m 63 1) - 1)) ?_)
  refine gh_beq (tgt := 23) gd_Model_signAt_11 (by decide) (fun c151 => ?_) (fun c151 => ?_)
  · have hz : True := trivial
    have hk := hk c151
    refine gh_aload_n gd_Model_signAt_14 0 rfl (by decide) ?_
    refine gf_63_0 gd_Model_signAt_15 gh_k1367 hF ?_
    refine gh_iload_n gd_Model_signAt_18 1 rfl ?_
    obtain ⟨q149, hk⟩ := hk
    have q150 := hk
    refine la_64 gd_Model_signAt_19 hF q149 q150 rfl ?_
    refine gh_goto (tgt := 24) gd_Model_signAt_20 (by decide) ?_
    refine gh_ret0 rfl gd_Model_signAt_24 ⟨rfl, ?_⟩
    unfold x_Model_signAt
    rw [if_pos c151]
  · have hz : True := trivial
    refine gh_iconst gd_Model_signAt_23 (gh_r0 rfl) ?_
    refine gh_ret0 rfl gd_Model_signAt_24 ⟨rfl, ?_⟩
    unfold x_Model_signAt
    rw [if_neg c151]
theorem e_Model_isSmall {E : gh_E} {m : gh_M} (d : Nat) (v0 : Int) : gh_C E gh_yModel_isSmall prog_14_method_10_code 1 (some .boolean) 8 (d + 1) [(0, v0)] m (fun r m1 => m1 = m ∧ r = (if (¬ (v0 < 97) ∧ (v0 ≤ 122)) then (1:Int) else 0)) := by
  refine gh_enter2 (L := [(0, 0, v0)]) (by decide +kernel) gh_rt8 (Nat.le_of_ble_eq_true rfl) rfl rfl ?_
  refine gh_iload_n gd_Model_isSmall_0 0 rfl ?_
  refine gh_bipush gd_Model_isSmall_1 (by decide) (gh_r0 rfl) ?_
  refine gh_bipush gd_Model_isSmall_3 (by decide) (gh_r0 rfl) ?_
  refine cv_Model_in (d := d) gd_Model_isSmall_5 gh_k1628 (Nat.le_of_ble_eq_true rfl) (gh_C.pe (e_Model_in d v0 97 122) ?_)
  refine gh_ret8 rfl gd_Model_isSmall_8 gh_ib01 ⟨rfl, ?_⟩
  rfl
def x_Model_ownerNow (m : gh_M) : Int := (if (m 63 15) = 0 then ((m 63 8) - 1) else (100 + (m 69 (m 63 15))))
def k_Model_ownerNow (m : gh_M) : Prop := (((m 63 15) = 0) → (gh_i ((m 63 8) - 1))) ∧ (¬ ((m 63 15) = 0) → (0 ≤ m 63 15 ∧ (m 63 15) < 4 ∧ gh_i (100 + (m 69 (m 63 15)))))
theorem e_Model_ownerNow {E : gh_E} {m : gh_M} (d : Nat) (hF : gh_F m) (hk : k_Model_ownerNow m) : gh_C E gh_yModel_ownerNow prog_14_method_16_code 1 (some .int) 0 (d + 0) [(2, 63)] m (fun r m1 => m1 = m ∧ r = x_Model_ownerNow m) := by
  refine gh_enter2 (L := [(0, 2, 63)]) (by decide +kernel) gh_rt0 (Nat.le_of_ble_eq_true rfl) rfl rfl ?_
  unfold k_Model_ownerNow at hk
  refine gh_aload_n gd_Model_ownerNow_0 0 rfl (by decide) ?_
  refine gf_63_15 gd_Model_ownerNow_1 gh_k1382 hF rfl ?_
  refine gh_zne (tgt := 16) gd_Model_ownerNow_4 (by decide) (fun c156 => ?_) (fun c156 => ?_)
  · have hz : True := trivial
    have hk := hk.1 c156
    refine gh_aload_n gd_Model_ownerNow_7 0 rfl (by decide) ?_
    refine gf_63_8 gd_Model_ownerNow_8 gh_k1375 hF rfl ?_
    refine gh_iconst gd_Model_ownerNow_11 (gh_r0 rfl) ?_
    have q152 := hk
    refine gh_isub gd_Model_ownerNow_12 q152 ?_
    refine gh_goto (tgt := 28) gd_Model_ownerNow_13 (by decide) ?_
    refine gh_ret0 rfl gd_Model_ownerNow_28 ⟨rfl, ?_⟩
    unfold x_Model_ownerNow
    rw [if_pos c156]
  · have hz : True := trivial
    have hk := hk.2 c156
    refine gh_bipush gd_Model_ownerNow_16 (by decide) (gh_r0 rfl) ?_
    refine gh_aload_n gd_Model_ownerNow_18 0 rfl (by decide) ?_
    refine gf_63_17 gd_Model_ownerNow_19 gh_k1384 hF ?_
    refine gh_aload_n gd_Model_ownerNow_22 0 rfl (by decide) ?_
    refine gf_63_15 gd_Model_ownerNow_23 gh_k1382 hF rfl ?_
    obtain ⟨q153, hk⟩ := hk
    obtain ⟨q154, hk⟩ := hk
    refine la_69 gd_Model_ownerNow_26 hF q153 q154 rfl ?_
    have q155 := hk
    refine gh_iadd gd_Model_ownerNow_27 q155 ?_
    refine gh_ret0 rfl gd_Model_ownerNow_28 ⟨rfl, ?_⟩
    unfold x_Model_ownerNow
    rw [if_neg c156]
def x_Model_numberOf (v1 : Int) (m : gh_M) : Int := (if v1 < 200 then (if v1 < 100 then v1 else ((m 63 8) + (m 70 (v1 - 100)))) else (((m 63 8) + v1) - 200))
def k_Model_numberOf (v1 : Int) (m : gh_M) : Prop := ((v1 < 200) → ((¬ (v1 < 100) → (gh_i (v1 - 100) ∧ 0 ≤ v1 - 100 ∧ (v1 - 100) < 300 ∧ gh_i ((m 63 8) + (m 70 (v1 - 100))))))) ∧ (¬ (v1 < 200) → (gh_i ((m 63 8) + v1) ∧ gh_i (((m 63 8) + v1) - 200)))
theorem e_Model_numberOf {E : gh_E} {m : gh_M} (d : Nat) (v1 : Int) (hF : gh_F m) (hk : k_Model_numberOf v1 m) : gh_C E gh_yModel_numberOf prog_14_method_27_code 2 (some .int) 0 (d + 0) [(2, 63), (0, v1)] m (fun r m1 => m1 = m ∧ r = x_Model_numberOf v1 m) := by
  refine gh_enter2 (L := [(0, 2, 63), (1, 0, v1)]) (by decide +kernel) gh_rt0 (Nat.le_of_ble_eq_true rfl) rfl rfl ?_
  unfold k_Model_numberOf at hk
  refine gh_iload_n gd_Model_numberOf_0 1 rfl ?_
  refine gh_sipush gd_Model_numberOf_1 (by decide) (gh_r0 rfl) ?_
  refine gh_jlt (tgt := 20) gd_Model_numberOf_4 (by decide) (fun c163 => ?_) (fun c163 => ?_)
  · have hz : True := trivial
    have hk := hk.1 c163
    refine gh_iload_n gd_Model_numberOf_20 1 rfl ?_
    refine gh_bipush gd_Model_numberOf_21 (by decide) (gh_r0 rfl) ?_
    refine gh_jlt (tgt := 43) gd_Model_numberOf_23 (by decide) (fun c164 => ?_) (fun c164 => ?_)
    · have hz : True := trivial
      refine gh_iload_n gd_Model_numberOf_43 1 rfl ?_
      refine gh_ret0 rfl gd_Model_numberOf_44 ⟨rfl, ?_⟩
      unfold x_Model_numberOf
      rw [if_pos c163, if_pos c164]
    · have hz : True := trivial
      have hk := hk c164
      refine gh_aload_n gd_Model_numberOf_26 0 rfl (by decide) ?_
      refine gf_63_8 gd_Model_numberOf_27 gh_k1375 hF rfl ?_
      refine gh_aload_n gd_Model_numberOf_30 0 rfl (by decide) ?_
      refine gf_63_18 gd_Model_numberOf_31 gh_k1385 hF ?_
      refine gh_iload_n gd_Model_numberOf_34 1 rfl ?_
      refine gh_bipush gd_Model_numberOf_35 (by decide) (gh_r0 rfl) ?_
      obtain ⟨q157, hk⟩ := hk
      refine gh_isub gd_Model_numberOf_37 q157 ?_
      obtain ⟨q158, hk⟩ := hk
      obtain ⟨q159, hk⟩ := hk
      refine la_70 gd_Model_numberOf_38 hF q158 q159 rfl ?_
      have q160 := hk
      refine gh_iadd gd_Model_numberOf_39 q160 ?_
      refine gh_goto (tgt := 44) gd_Model_numberOf_40 (by decide) ?_
      refine gh_ret0 rfl gd_Model_numberOf_44 ⟨rfl, ?_⟩
      unfold x_Model_numberOf
      rw [if_pos c163, if_neg c164]
  · have hz : True := trivial
    have hk := hk.2 c163
    refine gh_aload_n gd_Model_numberOf_7 0 rfl (by decide) ?_
    refine gf_63_8 gd_Model_numberOf_8 gh_k1375 hF rfl ?_
    refine gh_iload_n gd_Model_numberOf_11 1 rfl ?_
    obtain ⟨q161, hk⟩ := hk
    refine gh_iadd gd_Model_numberOf_12 q161 ?_
    refine gh_sipush gd_Model_numberOf_13 (by decide) (gh_r0 rfl) ?_
    have q162 := hk
    refine gh_isub gd_Model_numberOf_16 q162 ?_
    refine gh_goto (tgt := 44) gd_Model_numberOf_17 (by decide) ?_
    refine gh_ret0 rfl gd_Model_numberOf_44 ⟨rfl, ?_⟩
    unfold x_Model_numberOf
    rw [if_neg c163]
abbrev p_Model_isUnit (v1 : Int) (m : gh_M) : Prop := ((m 89 v1) = 1) ∧ ((m 90 (4 * v1)) < 0)
def k_Model_isUnit (v1 : Int) (m : gh_M) : Prop := 0 ≤ v1 ∧ v1 < 320 ∧ (((m 89 v1) = 1) → (gh_i (4 * v1) ∧ 0 ≤ 4 * v1 ∧ (4 * v1) < 1280))
theorem e_Model_isUnit {E : gh_E} {m : gh_M} (d : Nat) (v1 : Int) (hF : gh_F m) (hk : k_Model_isUnit v1 m) : gh_C E gh_yModel_isUnit prog_14_method_59_code 2 (some .boolean) 8 (d + 0) [(2, 63), (0, v1)] m (fun r m1 => m1 = m ∧ r = (if p_Model_isUnit v1 m then (1:Int) else 0)) := by
  refine gh_enter2 (L := [(0, 2, 63), (1, 0, v1)]) (by decide +kernel) gh_rt8 (Nat.le_of_ble_eq_true rfl) rfl rfl ?_
  unfold k_Model_isUnit at hk
  refine gh_aload_n gd_Model_isUnit_0 0 rfl (by decide) ?_
  refine gf_63_43 gd_Model_isUnit_1 gh_k1410 hF ?_
  refine gh_iload_n gd_Model_isUnit_4 1 rfl ?_
  obtain ⟨q165, hk⟩ := hk
  obtain ⟨q166, hk⟩ := hk
  refine la_89 gd_Model_isUnit_5 hF q165 q166 rfl ?_
  refine gh_iconst gd_Model_isUnit_6 (gh_r0 rfl) ?_
  refine gh_jne (tgt := 25) gd_Model_isUnit_7 (by decide) (fun c170 => ?_) (fun c170 => ?_)
  · have hz : True := trivial
    have hk := hk c170
    refine gh_aload_n gd_Model_isUnit_10 0 rfl (by decide) ?_
    refine gf_63_44 gd_Model_isUnit_11 gh_k1411 hF ?_
    refine gh_iconst gd_Model_isUnit_14 (gh_r0 rfl) ?_
    refine gh_iload_n gd_Model_isUnit_15 1 rfl ?_
    obtain ⟨q167, hk⟩ := hk
    refine gh_imul gd_Model_isUnit_16 q167 ?_
    obtain ⟨q168, hk⟩ := hk
    have q169 := hk
    refine la_90 gd_Model_isUnit_17 hF q168 q169 rfl ?_
    refine gh_zge (tgt := 25) gd_Model_isUnit_18 (by decide) (fun c171 => ?_) (fun c171 => ?_)
    · have hz : True := trivial
      refine gh_iconst gd_Model_isUnit_21 (gh_r0 rfl) ?_
      refine gh_goto (tgt := 26) gd_Model_isUnit_22 (by decide) ?_
      refine gh_ret8 rfl gd_Model_isUnit_26 (by decide) ⟨rfl, ?_⟩
      exact (if_pos (c := p_Model_isUnit v1 m) ⟨c170, c171⟩).symm
    · have hz : True := trivial
      refine gh_iconst gd_Model_isUnit_25 (gh_r0 rfl) ?_
      refine gh_ret8 rfl gd_Model_isUnit_26 (by decide) ⟨rfl, ?_⟩
      exact (if_neg (c := p_Model_isUnit v1 m) (fun z => c171 z.2)).symm
  · have hz : True := trivial
    refine gh_iconst gd_Model_isUnit_25 (gh_r0 rfl) ?_
    refine gh_ret8 rfl gd_Model_isUnit_26 (by decide) ⟨rfl, ?_⟩
    exact (if_neg (c := p_Model_isUnit v1 m) (fun z => c170 z.1)).symm
def x_Model_fault (v1 : Int) (m : gh_M) : Int := (if (¬ (v1 < 0) ∧ (v1 ≤ 1)) then (if v1 = 0 then (m 63 2) else (m 63 3)) else (-1002))
theorem e_Model_fault {E : gh_E} {m : gh_M} (d : Nat) (v1 : Int) (hF : gh_F m) : gh_C E gh_yModel_fault prog_14_method_32_code 2 (some .int) 0 (d + 1) [(2, 63), (0, v1)] m (fun r m1 => m1 = m ∧ r = x_Model_fault v1 m) := by
  refine gh_enter2 (L := [(0, 2, 63), (1, 0, v1)]) (by decide +kernel) gh_rt0 (Nat.le_of_ble_eq_true rfl) rfl rfl ?_
  refine gh_iload_n gd_Model_fault_0 1 rfl ?_
  refine gh_iconst gd_Model_fault_1 (gh_r0 rfl) ?_
  refine gh_iconst gd_Model_fault_2 (gh_r0 rfl) ?_
  refine cv_Model_in (d := d) gd_Model_fault_3 gh_k1628 (Nat.le_of_ble_eq_true rfl) (gh_C.pe (e_Model_in d v1 0 1) ?_)
  refine gh_bne (tgt := 15) gd_Model_fault_6 (by decide) (fun c172 => ?_) (fun c172 => ?_)
  · have hz : True := trivial
    refine gh_iload_n gd_Model_fault_15 1 rfl ?_
    refine gh_zne (tgt := 26) gd_Model_fault_16 (by decide) (fun c173 => ?_) (fun c173 => ?_)
    · have hz : True := trivial
      refine gh_aload_n gd_Model_fault_19 0 rfl (by decide) ?_
      refine gf_63_2 gd_Model_fault_20 gh_k1369 hF rfl ?_
      refine gh_goto (tgt := 30) gd_Model_fault_23 (by decide) ?_
      refine gh_ret0 rfl gd_Model_fault_30 ⟨rfl, ?_⟩
      unfold x_Model_fault
      rw [if_pos c172, if_pos c173]
    · have hz : True := trivial
      refine gh_aload_n gd_Model_fault_26 0 rfl (by decide) ?_
      refine gf_63_3 gd_Model_fault_27 gh_k1370 hF rfl ?_
      refine gh_ret0 rfl gd_Model_fault_30 ⟨rfl, ?_⟩
      unfold x_Model_fault
      rw [if_pos c172, if_neg c173]
  · have hz : True := trivial
    refine gh_sipush gd_Model_fault_9 (by decide) (gh_r0 rfl) ?_
    refine gh_goto (tgt := 30) gd_Model_fault_12 (by decide) ?_
    refine gh_ret0 rfl gd_Model_fault_30 ⟨rfl, ?_⟩
    unfold x_Model_fault
    rw [if_neg c172]
abbrev p_Model_isName (v1 : Int) (m : gh_M) : Prop := ¬ ((m 63 24) = 0) ∧ ((¬ (v1 < 0) ∧ (v1 ≤ ((m 63 26) - 1))))
def k_Model_isName (v1 : Int) (m : gh_M) : Prop := (¬ ((m 63 24) = 0) → (gh_i ((m 63 26) - 1)))
theorem e_Model_isName {E : gh_E} {m : gh_M} (d : Nat) (v1 : Int) (hF : gh_F m) (hk : k_Model_isName v1 m) : gh_C E gh_yModel_isName prog_14_method_44_code 2 (some .boolean) 8 (d + 1) [(2, 63), (0, v1)] m (fun r m1 => m1 = m ∧ r = (if p_Model_isName v1 m then (1:Int) else 0)) := by
  refine gh_enter2 (L := [(0, 2, 63), (1, 0, v1)]) (by decide +kernel) gh_rt8 (Nat.le_of_ble_eq_true rfl) rfl rfl ?_
  unfold k_Model_isName at hk
  refine gh_aload_n gd_Model_isName_0 0 rfl (by decide) ?_
  refine gf_63_24 gd_Model_isName_1 gh_k1391 hF rfl ?_
  refine gh_zeq (tgt := 25) gd_Model_isName_4 (by decide) (fun c175 => ?_) (fun c175 => ?_)
  · have hz : True := trivial
    refine gh_iconst gd_Model_isName_25 (gh_r0 rfl) ?_
    refine gh_ret8 rfl gd_Model_isName_26 (by decide) ⟨rfl, ?_⟩
    exact (if_neg (c := p_Model_isName v1 m) (fun z => z.1 c175)).symm
  · have hz : True := trivial
    have hk := hk c175
    refine gh_iload_n gd_Model_isName_7 1 rfl ?_
    refine gh_iconst gd_Model_isName_8 (gh_r0 rfl) ?_
    refine gh_aload_n gd_Model_isName_9 0 rfl (by decide) ?_
    refine gf_63_26 gd_Model_isName_10 gh_k1393 hF rfl ?_
    refine gh_iconst gd_Model_isName_13 (gh_r0 rfl) ?_
    have q174 := hk
    refine gh_isub gd_Model_isName_14 q174 ?_
    refine cv_Model_in (d := d) gd_Model_isName_15 gh_k1628 (Nat.le_of_ble_eq_true rfl) (gh_C.pe (e_Model_in d v1 0 ((m 63 26) - 1)) ?_)
    refine gh_beq (tgt := 25) gd_Model_isName_18 (by decide) (fun c176 => ?_) (fun c176 => ?_)
    · have hz : True := trivial
      refine gh_iconst gd_Model_isName_21 (gh_r0 rfl) ?_
      refine gh_goto (tgt := 26) gd_Model_isName_22 (by decide) ?_
      refine gh_ret8 rfl gd_Model_isName_26 (by decide) ⟨rfl, ?_⟩
      exact (if_pos (c := p_Model_isName v1 m) ⟨c175, c176⟩).symm
    · have hz : True := trivial
      refine gh_iconst gd_Model_isName_25 (gh_r0 rfl) ?_
      refine gh_ret8 rfl gd_Model_isName_26 (by decide) ⟨rfl, ?_⟩
      exact (if_neg (c := p_Model_isName v1 m) (fun z => c176 z.2)).symm
abbrev p_Model_bit (v0 : Int) : Prop := ¬ (v0 = 0)
theorem e_Model_bit {E : gh_E} {m : gh_M} (d : Nat) (v0 : Int) : gh_C E gh_yModel_bit prog_14_method_43_code 1 (some .int) 0 (d + 0) [(0, v0)] m (fun r m1 => m1 = m ∧ r = (if p_Model_bit v0 then (1:Int) else 0)) := by
  refine gh_enter2 (L := [(0, 0, v0)]) (by decide +kernel) gh_rt0 (Nat.le_of_ble_eq_true rfl) rfl rfl ?_
  refine gh_iload_n gd_Model_bit_0 0 rfl ?_
  refine gh_zeq (tgt := 8) gd_Model_bit_1 (by decide) (fun c177 => ?_) (fun c177 => ?_)
  · have hz : True := trivial
    refine gh_iconst gd_Model_bit_8 (gh_r0 rfl) ?_
    refine gh_ret0 rfl gd_Model_bit_9 ⟨rfl, ?_⟩
    exact (if_neg (c := p_Model_bit v0) (not_not_intro c177)).symm
  · have hz : True := trivial
    refine gh_iconst gd_Model_bit_4 (gh_r0 rfl) ?_
    refine gh_goto (tgt := 9) gd_Model_bit_5 (by decide) ?_
    refine gh_ret0 rfl gd_Model_bit_9 ⟨rfl, ?_⟩
    exact (if_pos (c := p_Model_bit v0) c177).symm
def x_Model_leastTold (v1 : Int) (m : gh_M) : Int := (if (m 82 v1) = 1000000000 then (-1) else (m 82 v1))
def k_Model_leastTold (v1 : Int) (m : gh_M) : Prop := 0 ≤ v1 ∧ v1 < 8 ∧ (¬ ((m 82 v1) = 1000000000) → (0 ≤ v1 ∧ v1 < 8))
theorem e_Model_leastTold {E : gh_E} {m : gh_M} (d : Nat) (v1 : Int) (hF : gh_F m) (hk : k_Model_leastTold v1 m) : gh_C E gh_yModel_leastTold prog_14_method_42_code 2 (some .int) 0 (d + 0) [(2, 63), (0, v1)] m (fun r m1 => m1 = m ∧ r = x_Model_leastTold v1 m) := by
  refine gh_enter2 (L := [(0, 2, 63), (1, 0, v1)]) (by decide +kernel) gh_rt0 (Nat.le_of_ble_eq_true rfl) rfl rfl ?_
  unfold k_Model_leastTold at hk
  refine gh_aload_n gd_Model_leastTold_0 0 rfl (by decide) ?_
  refine gf_63_35 gd_Model_leastTold_1 gh_k1402 hF ?_
  refine gh_iload_n gd_Model_leastTold_4 1 rfl ?_
  obtain ⟨q178, hk⟩ := hk
  obtain ⟨q179, hk⟩ := hk
  refine la_82 gd_Model_leastTold_5 hF q178 q179 rfl ?_
  refine gh_ldcw (n := 1000000000) gd_Model_leastTold_6 gh_k1741 (by decide) (gh_r0 rfl) ?_
  refine gh_jne (tgt := 16) gd_Model_leastTold_9 (by decide) (fun c182 => ?_) (fun c182 => ?_)
  · have hz : True := trivial
    refine gh_iconst gd_Model_leastTold_12 (gh_r0 rfl) ?_
    refine gh_goto (tgt := 22) gd_Model_leastTold_13 (by decide) ?_
    refine gh_ret0 rfl gd_Model_leastTold_22 ⟨rfl, ?_⟩
    unfold x_Model_leastTold
    rw [if_pos c182]
  · have hz : True := trivial
    have hk := hk c182
    refine gh_aload_n gd_Model_leastTold_16 0 rfl (by decide) ?_
    refine gf_63_35 gd_Model_leastTold_17 gh_k1402 hF ?_
    refine gh_iload_n gd_Model_leastTold_20 1 rfl ?_
    obtain ⟨q180, hk⟩ := hk
    have q181 := hk
    refine la_82 gd_Model_leastTold_21 hF q180 q181 rfl ?_
    refine gh_ret0 rfl gd_Model_leastTold_22 ⟨rfl, ?_⟩
    unfold x_Model_leastTold
    rw [if_neg c182]
def x_Model_nameSign (v1 : Int) (v2 : Int) (m : gh_M) : Int := (if (m 63 24) = 0 then (if v2 < 0 then (-1002) else (if (m 63 24) = 0 then (-1003) else (if v2 < (m 75 v1) then (m 76 ((3 * v1) + v2)) else (-1)))) else (if p_Model_isName v1 m then (if v2 < 0 then (-1002) else (if (m 63 24) = 0 then (-1003) else (if v2 < (m 75 v1) then (m 76 ((3 * v1) + v2)) else (-1)))) else (-1001)))
def k_Model_nameSign (v1 : Int) (v2 : Int) (m : gh_M) : Prop := (((m 63 24) = 0) → ((¬ (v2 < 0) → ((¬ ((m 63 24) = 0) → (0 ≤ v1 ∧ v1 < 8 ∧ ((v2 < (m 75 v1)) → (gh_i (3 * v1) ∧ gh_i ((3 * v1) + v2) ∧ 0 ≤ (3 * v1) + v2 ∧ ((3 * v1) + v2) < 24)))))))) ∧ (¬ ((m 63 24) = 0) → (k_Model_isName v1 m ∧ ((p_Model_isName v1 m) → ((¬ (v2 < 0) → ((¬ ((m 63 24) = 0) → (0 ≤ v1 ∧ v1 < 8 ∧ ((v2 < (m 75 v1)) → (gh_i (3 * v1) ∧ gh_i ((3 * v1) + v2) ∧ 0 ≤ (3 * v1) + v2 ∧ ((3 * v1) + v2) < 24))))))))))
theorem e_Model_nameSign {E : gh_E} {m : gh_M} (d : Nat) (v1 : Int) (v2 : Int) (hF : gh_F m) (hk : k_Model_nameSign v1 v2 m) : gh_C E gh_yModel_nameSign prog_14_method_48_code 3 (some .int) 0 (d + 2) [(2, 63), (0, v1), (0, v2)] m (fun r m1 => m1 = m ∧ r = x_Model_nameSign v1 v2 m) := by
  refine gh_enter2 (L := [(0, 2, 63), (1, 0, v1), (2, 0, v2)]) (by decide +kernel) gh_rt0 (Nat.le_of_ble_eq_true rfl) rfl rfl ?_
  unfold k_Model_nameSign at hk
  refine gh_aload_n gd_Model_nameSign_0 0 rfl (by decide) ?_
  refine gf_63_24 gd_Model_nameSign_1 gh_k1391 hF rfl ?_
  refine gh_zeq (tgt := 19) gd_Model_nameSign_4 (by decide) (fun c196 => ?_) (fun c196 => ?_)
  · have hz : True := trivial
    have hk := hk.1 c196
    refine gh_iload_n gd_Model_nameSign_19 2 rfl ?_
    refine gh_zge (tgt := 27) gd_Model_nameSign_20 (by decide) (fun c197 => ?_) (fun c197 => ?_)
    · have hz : True := trivial
      refine gh_sipush gd_Model_nameSign_23 (by decide) (gh_r0 rfl) ?_
      refine gh_ret0 rfl gd_Model_nameSign_26 ⟨rfl, ?_⟩
      unfold x_Model_nameSign
      rw [if_pos c196, if_pos c197]
    · have hz : True := trivial
      have hk := hk c197
      refine gh_aload_n gd_Model_nameSign_27 0 rfl (by decide) ?_
      refine gf_63_24 gd_Model_nameSign_28 gh_k1391 hF rfl ?_
      refine gh_zne (tgt := 40) gd_Model_nameSign_31 (by decide) (fun c198 => ?_) (fun c198 => ?_)
      · have hz : True := trivial
        refine gh_sipush gd_Model_nameSign_34 (by decide) (gh_r0 rfl) ?_
        refine gh_goto (tgt := 64) gd_Model_nameSign_37 (by decide) ?_
        refine gh_ret0 rfl gd_Model_nameSign_64 ⟨rfl, ?_⟩
        unfold x_Model_nameSign
        rw [if_pos c196, if_neg c197, if_pos c198]
      · have hz : True := trivial
        have hk := hk c198
        refine gh_iload_n gd_Model_nameSign_40 2 rfl ?_
        refine gh_aload_n gd_Model_nameSign_41 0 rfl (by decide) ?_
        refine gf_63_28 gd_Model_nameSign_42 gh_k1395 hF ?_
        refine gh_iload_n gd_Model_nameSign_45 1 rfl ?_
        obtain ⟨q183, hk⟩ := hk
        obtain ⟨q184, hk⟩ := hk
        refine la_75 gd_Model_nameSign_46 hF q183 q184 rfl ?_
        refine gh_jge (tgt := 63) gd_Model_nameSign_47 (by decide) (fun c199 => ?_) (fun c199 => ?_)
        · have hz : True := trivial
          have hk := hk c199
          refine gh_aload_n gd_Model_nameSign_50 0 rfl (by decide) ?_
          refine gf_63_29 gd_Model_nameSign_51 gh_k1396 hF ?_
          refine gh_iconst gd_Model_nameSign_54 (gh_r0 rfl) ?_
          refine gh_iload_n gd_Model_nameSign_55 1 rfl ?_
          obtain ⟨q185, hk⟩ := hk
          refine gh_imul gd_Model_nameSign_56 q185 ?_
          refine gh_iload_n gd_Model_nameSign_57 2 rfl ?_
          obtain ⟨q186, hk⟩ := hk
          refine gh_iadd gd_Model_nameSign_58 q186 ?_
          obtain ⟨q187, hk⟩ := hk
          have q188 := hk
          refine la_76 gd_Model_nameSign_59 hF q187 q188 rfl ?_
          refine gh_goto (tgt := 64) gd_Model_nameSign_60 (by decide) ?_
          refine gh_ret0 rfl gd_Model_nameSign_64 ⟨rfl, ?_⟩
          unfold x_Model_nameSign
          rw [if_pos c196, if_neg c197, if_neg c198, if_pos c199]
        · have hz : True := trivial
          refine gh_iconst gd_Model_nameSign_63 (gh_r0 rfl) ?_
          refine gh_ret0 rfl gd_Model_nameSign_64 ⟨rfl, ?_⟩
          unfold x_Model_nameSign
          rw [if_pos c196, if_neg c197, if_neg c198, if_neg c199]
  · have hz : True := trivial
    have hk := hk.2 c196
    refine gh_aload_n gd_Model_nameSign_7 0 rfl (by decide) ?_
    refine gh_iload_n gd_Model_nameSign_8 1 rfl ?_
    obtain ⟨q189, hk⟩ := hk
    refine cv_Model_isName (d := d + 1) gd_Model_nameSign_9 gh_k1813 hF (Nat.le_of_ble_eq_true rfl) (gh_C.pe (e_Model_isName d v1 hF q189) ?_)
    refine gh_bne (tgt := 19) gd_Model_nameSign_12 (by decide) (fun c200 => ?_) (fun c200 => ?_)
    · have hz : True := trivial
      have hk := hk c200
      refine gh_iload_n gd_Model_nameSign_19 2 rfl ?_
      refine gh_zge (tgt := 27) gd_Model_nameSign_20 (by decide) (fun c201 => ?_) (fun c201 => ?_)
      · have hz : True := trivial
        refine gh_sipush gd_Model_nameSign_23 (by decide) (gh_r0 rfl) ?_
        refine gh_ret0 rfl gd_Model_nameSign_26 ⟨rfl, ?_⟩
        unfold x_Model_nameSign
        rw [if_neg c196, if_pos c200, if_pos c201]
      · have hz : True := trivial
        have hk := hk c201
        refine gh_aload_n gd_Model_nameSign_27 0 rfl (by decide) ?_
        refine gf_63_24 gd_Model_nameSign_28 gh_k1391 hF rfl ?_
        refine gh_zne (tgt := 40) gd_Model_nameSign_31 (by decide) (fun c202 => ?_) (fun c202 => ?_)
        · have hz : True := trivial
          refine gh_sipush gd_Model_nameSign_34 (by decide) (gh_r0 rfl) ?_
          refine gh_goto (tgt := 64) gd_Model_nameSign_37 (by decide) ?_
          refine gh_ret0 rfl gd_Model_nameSign_64 ⟨rfl, ?_⟩
          unfold x_Model_nameSign
          rw [if_neg c196, if_pos c200, if_neg c201, if_pos c202]
        · have hz : True := trivial
          have hk := hk c202
          refine gh_iload_n gd_Model_nameSign_40 2 rfl ?_
          refine gh_aload_n gd_Model_nameSign_41 0 rfl (by decide) ?_
          refine gf_63_28 gd_Model_nameSign_42 gh_k1395 hF ?_
          refine gh_iload_n gd_Model_nameSign_45 1 rfl ?_
          obtain ⟨q190, hk⟩ := hk
          obtain ⟨q191, hk⟩ := hk
          refine la_75 gd_Model_nameSign_46 hF q190 q191 rfl ?_
          refine gh_jge (tgt := 63) gd_Model_nameSign_47 (by decide) (fun c203 => ?_) (fun c203 => ?_)
          · have hz : True := trivial
            have hk := hk c203
            refine gh_aload_n gd_Model_nameSign_50 0 rfl (by decide) ?_
            refine gf_63_29 gd_Model_nameSign_51 gh_k1396 hF ?_
            refine gh_iconst gd_Model_nameSign_54 (gh_r0 rfl) ?_
            refine gh_iload_n gd_Model_nameSign_55 1 rfl ?_
            obtain ⟨q192, hk⟩ := hk
            refine gh_imul gd_Model_nameSign_56 q192 ?_
            refine gh_iload_n gd_Model_nameSign_57 2 rfl ?_
            obtain ⟨q193, hk⟩ := hk
            refine gh_iadd gd_Model_nameSign_58 q193 ?_
            obtain ⟨q194, hk⟩ := hk
            have q195 := hk
            refine la_76 gd_Model_nameSign_59 hF q194 q195 rfl ?_
            refine gh_goto (tgt := 64) gd_Model_nameSign_60 (by decide) ?_
            refine gh_ret0 rfl gd_Model_nameSign_64 ⟨rfl, ?_⟩
            unfold x_Model_nameSign
            rw [if_neg c196, if_pos c200, if_neg c201, if_neg c202, if_pos c203]
          · have hz : True := trivial
            refine gh_iconst gd_Model_nameSign_63 (gh_r0 rfl) ?_
            refine gh_ret0 rfl gd_Model_nameSign_64 ⟨rfl, ?_⟩
            unfold x_Model_nameSign
            rw [if_neg c196, if_pos c200, if_neg c201, if_neg c202, if_neg c203]
    · have hz : True := trivial
      refine gh_sipush gd_Model_nameSign_15 (by decide) (gh_r0 rfl) ?_
      refine gh_ret0 rfl gd_Model_nameSign_18 ⟨rfl, ?_⟩
      unfold x_Model_nameSign
      rw [if_neg c196, if_neg c200]
abbrev p_Model_isRule (v1 : Int) (m : gh_M) : Prop := ¬ ((m 63 24) = 0) ∧ ((¬ (v1 < 0) ∧ (v1 ≤ ((m 63 27) - 1))))
def k_Model_isRule (v1 : Int) (m : gh_M) : Prop := (¬ ((m 63 24) = 0) → (gh_i ((m 63 27) - 1)))
theorem e_Model_isRule {E : gh_E} {m : gh_M} (d : Nat) (v1 : Int) (hF : gh_F m) (hk : k_Model_isRule v1 m) : gh_C E gh_yModel_isRule prog_14_method_45_code 2 (some .boolean) 8 (d + 1) [(2, 63), (0, v1)] m (fun r m1 => m1 = m ∧ r = (if p_Model_isRule v1 m then (1:Int) else 0)) := by
  refine gh_enter2 (L := [(0, 2, 63), (1, 0, v1)]) (by decide +kernel) gh_rt8 (Nat.le_of_ble_eq_true rfl) rfl rfl ?_
  unfold k_Model_isRule at hk
  refine gh_aload_n gd_Model_isRule_0 0 rfl (by decide) ?_
  refine gf_63_24 gd_Model_isRule_1 gh_k1391 hF rfl ?_
  refine gh_zeq (tgt := 25) gd_Model_isRule_4 (by decide) (fun c205 => ?_) (fun c205 => ?_)
  · have hz : True := trivial
    refine gh_iconst gd_Model_isRule_25 (gh_r0 rfl) ?_
    refine gh_ret8 rfl gd_Model_isRule_26 (by decide) ⟨rfl, ?_⟩
    exact (if_neg (c := p_Model_isRule v1 m) (fun z => z.1 c205)).symm
  · have hz : True := trivial
    have hk := hk c205
    refine gh_iload_n gd_Model_isRule_7 1 rfl ?_
    refine gh_iconst gd_Model_isRule_8 (gh_r0 rfl) ?_
    refine gh_aload_n gd_Model_isRule_9 0 rfl (by decide) ?_
    refine gf_63_27 gd_Model_isRule_10 gh_k1394 hF rfl ?_
    refine gh_iconst gd_Model_isRule_13 (gh_r0 rfl) ?_
    have q204 := hk
    refine gh_isub gd_Model_isRule_14 q204 ?_
    refine cv_Model_in (d := d) gd_Model_isRule_15 gh_k1628 (Nat.le_of_ble_eq_true rfl) (gh_C.pe (e_Model_in d v1 0 ((m 63 27) - 1)) ?_)
    refine gh_beq (tgt := 25) gd_Model_isRule_18 (by decide) (fun c206 => ?_) (fun c206 => ?_)
    · have hz : True := trivial
      refine gh_iconst gd_Model_isRule_21 (gh_r0 rfl) ?_
      refine gh_goto (tgt := 26) gd_Model_isRule_22 (by decide) ?_
      refine gh_ret8 rfl gd_Model_isRule_26 (by decide) ⟨rfl, ?_⟩
      exact (if_pos (c := p_Model_isRule v1 m) ⟨c205, c206⟩).symm
    · have hz : True := trivial
      refine gh_iconst gd_Model_isRule_25 (gh_r0 rfl) ?_
      refine gh_ret8 rfl gd_Model_isRule_26 (by decide) ⟨rfl, ?_⟩
      exact (if_neg (c := p_Model_isRule v1 m) (fun z => c206 z.2)).symm
def x_Model_rule (v1 : Int) (v2 : Int) (m : gh_M) : Int := (if (m 63 24) = 0 then (if (¬ (v2 < 0) ∧ (v2 ≤ 1)) then (if (m 63 24) = 0 then (-1003) else (if v2 = 0 then (m 79 v1) else (m 80 v1))) else (-1002)) else (if p_Model_isRule v1 m then (if (¬ (v2 < 0) ∧ (v2 ≤ 1)) then (if (m 63 24) = 0 then (-1003) else (if v2 = 0 then (m 79 v1) else (m 80 v1))) else (-1002)) else (-1001)))
def k_Model_rule (v1 : Int) (v2 : Int) (m : gh_M) : Prop := (((m 63 24) = 0) → ((((¬ (v2 < 0) ∧ (v2 ≤ 1))) → ((¬ ((m 63 24) = 0) → (((v2 = 0) → (0 ≤ v1 ∧ v1 < 20)) ∧ (¬ (v2 = 0) → (0 ≤ v1 ∧ v1 < 20)))))))) ∧ (¬ ((m 63 24) = 0) → (k_Model_isRule v1 m ∧ ((p_Model_isRule v1 m) → ((((¬ (v2 < 0) ∧ (v2 ≤ 1))) → ((¬ ((m 63 24) = 0) → (((v2 = 0) → (0 ≤ v1 ∧ v1 < 20)) ∧ (¬ (v2 = 0) → (0 ≤ v1 ∧ v1 < 20))))))))))
theorem e_Model_rule {E : gh_E} {m : gh_M} (d : Nat) (v1 : Int) (v2 : Int) (hF : gh_F m) (hk : k_Model_rule v1 v2 m) : gh_C E gh_yModel_rule prog_14_method_49_code 3 (some .int) 0 (d + 2) [(2, 63), (0, v1), (0, v2)] m (fun r m1 => m1 = m ∧ r = x_Model_rule v1 v2 m) := by
  refine gh_enter2 (L := [(0, 2, 63), (1, 0, v1), (2, 0, v2)]) (by decide +kernel) gh_rt0 (Nat.le_of_ble_eq_true rfl) rfl rfl ?_
  unfold k_Model_rule at hk
  refine gh_aload_n gd_Model_rule_0 0 rfl (by decide) ?_
  refine gf_63_24 gd_Model_rule_1 gh_k1391 hF rfl ?_
  refine gh_zeq (tgt := 19) gd_Model_rule_4 (by decide) (fun c216 => ?_) (fun c216 => ?_)
  · have hz : True := trivial
    have hk := hk.1 c216
    refine gh_iload_n gd_Model_rule_19 2 rfl ?_
    refine gh_iconst gd_Model_rule_20 (gh_r0 rfl) ?_
    refine gh_iconst gd_Model_rule_21 (gh_r0 rfl) ?_
    refine cv_Model_in (d := d + 1) gd_Model_rule_22 gh_k1628 (Nat.le_of_ble_eq_true rfl) (gh_C.pe (e_Model_in (d + 1) v2 0 1) ?_)
    refine gh_bne (tgt := 32) gd_Model_rule_25 (by decide) (fun c217 => ?_) (fun c217 => ?_)
    · have hz : True := trivial
      have hk := hk c217
      refine gh_aload_n gd_Model_rule_32 0 rfl (by decide) ?_
      refine gf_63_24 gd_Model_rule_33 gh_k1391 hF rfl ?_
      refine gh_zne (tgt := 45) gd_Model_rule_36 (by decide) (fun c218 => ?_) (fun c218 => ?_)
      · have hz : True := trivial
        refine gh_sipush gd_Model_rule_39 (by decide) (gh_r0 rfl) ?_
        refine gh_goto (tgt := 64) gd_Model_rule_42 (by decide) ?_
        refine gh_ret0 rfl gd_Model_rule_64 ⟨rfl, ?_⟩
        unfold x_Model_rule
        rw [if_pos c216, if_pos c217, if_pos c218]
      · have hz : True := trivial
        have hk := hk c218
        refine gh_iload_n gd_Model_rule_45 2 rfl ?_
        refine gh_zne (tgt := 58) gd_Model_rule_46 (by decide) (fun c219 => ?_) (fun c219 => ?_)
        · have hz : True := trivial
          have hk := hk.1 c219
          refine gh_aload_n gd_Model_rule_49 0 rfl (by decide) ?_
          refine gf_63_32 gd_Model_rule_50 gh_k1399 hF ?_
          refine gh_iload_n gd_Model_rule_53 1 rfl ?_
          obtain ⟨q207, hk⟩ := hk
          have q208 := hk
          refine la_79 gd_Model_rule_54 hF q207 q208 rfl ?_
          refine gh_goto (tgt := 64) gd_Model_rule_55 (by decide) ?_
          refine gh_ret0 rfl gd_Model_rule_64 ⟨rfl, ?_⟩
          unfold x_Model_rule
          rw [if_pos c216, if_pos c217, if_neg c218, if_pos c219]
        · have hz : True := trivial
          have hk := hk.2 c219
          refine gh_aload_n gd_Model_rule_58 0 rfl (by decide) ?_
          refine gf_63_33 gd_Model_rule_59 gh_k1400 hF ?_
          refine gh_iload_n gd_Model_rule_62 1 rfl ?_
          obtain ⟨q209, hk⟩ := hk
          have q210 := hk
          refine la_80 gd_Model_rule_63 hF q209 q210 rfl ?_
          refine gh_ret0 rfl gd_Model_rule_64 ⟨rfl, ?_⟩
          unfold x_Model_rule
          rw [if_pos c216, if_pos c217, if_neg c218, if_neg c219]
    · have hz : True := trivial
      refine gh_sipush gd_Model_rule_28 (by decide) (gh_r0 rfl) ?_
      refine gh_ret0 rfl gd_Model_rule_31 ⟨rfl, ?_⟩
      unfold x_Model_rule
      rw [if_pos c216, if_neg c217]
  · have hz : True := trivial
    have hk := hk.2 c216
    refine gh_aload_n gd_Model_rule_7 0 rfl (by decide) ?_
    refine gh_iload_n gd_Model_rule_8 1 rfl ?_
    obtain ⟨q211, hk⟩ := hk
    refine cv_Model_isRule (d := d + 1) gd_Model_rule_9 gh_k1832 hF (Nat.le_of_ble_eq_true rfl) (gh_C.pe (e_Model_isRule d v1 hF q211) ?_)
    refine gh_bne (tgt := 19) gd_Model_rule_12 (by decide) (fun c220 => ?_) (fun c220 => ?_)
    · have hz : True := trivial
      have hk := hk c220
      refine gh_iload_n gd_Model_rule_19 2 rfl ?_
      refine gh_iconst gd_Model_rule_20 (gh_r0 rfl) ?_
      refine gh_iconst gd_Model_rule_21 (gh_r0 rfl) ?_
      refine cv_Model_in (d := d + 1) gd_Model_rule_22 gh_k1628 (Nat.le_of_ble_eq_true rfl) (gh_C.pe (e_Model_in (d + 1) v2 0 1) ?_)
      refine gh_bne (tgt := 32) gd_Model_rule_25 (by decide) (fun c221 => ?_) (fun c221 => ?_)
      · have hz : True := trivial
        have hk := hk c221
        refine gh_aload_n gd_Model_rule_32 0 rfl (by decide) ?_
        refine gf_63_24 gd_Model_rule_33 gh_k1391 hF rfl ?_
        refine gh_zne (tgt := 45) gd_Model_rule_36 (by decide) (fun c222 => ?_) (fun c222 => ?_)
        · have hz : True := trivial
          refine gh_sipush gd_Model_rule_39 (by decide) (gh_r0 rfl) ?_
          refine gh_goto (tgt := 64) gd_Model_rule_42 (by decide) ?_
          refine gh_ret0 rfl gd_Model_rule_64 ⟨rfl, ?_⟩
          unfold x_Model_rule
          rw [if_neg c216, if_pos c220, if_pos c221, if_pos c222]
        · have hz : True := trivial
          have hk := hk c222
          refine gh_iload_n gd_Model_rule_45 2 rfl ?_
          refine gh_zne (tgt := 58) gd_Model_rule_46 (by decide) (fun c223 => ?_) (fun c223 => ?_)
          · have hz : True := trivial
            have hk := hk.1 c223
            refine gh_aload_n gd_Model_rule_49 0 rfl (by decide) ?_
            refine gf_63_32 gd_Model_rule_50 gh_k1399 hF ?_
            refine gh_iload_n gd_Model_rule_53 1 rfl ?_
            obtain ⟨q212, hk⟩ := hk
            have q213 := hk
            refine la_79 gd_Model_rule_54 hF q212 q213 rfl ?_
            refine gh_goto (tgt := 64) gd_Model_rule_55 (by decide) ?_
            refine gh_ret0 rfl gd_Model_rule_64 ⟨rfl, ?_⟩
            unfold x_Model_rule
            rw [if_neg c216, if_pos c220, if_pos c221, if_neg c222, if_pos c223]
          · have hz : True := trivial
            have hk := hk.2 c223
            refine gh_aload_n gd_Model_rule_58 0 rfl (by decide) ?_
            refine gf_63_33 gd_Model_rule_59 gh_k1400 hF ?_
            refine gh_iload_n gd_Model_rule_62 1 rfl ?_
            obtain ⟨q214, hk⟩ := hk
            have q215 := hk
            refine la_80 gd_Model_rule_63 hF q214 q215 rfl ?_
            refine gh_ret0 rfl gd_Model_rule_64 ⟨rfl, ?_⟩
            unfold x_Model_rule
            rw [if_neg c216, if_pos c220, if_pos c221, if_neg c222, if_neg c223]
      · have hz : True := trivial
        refine gh_sipush gd_Model_rule_28 (by decide) (gh_r0 rfl) ?_
        refine gh_ret0 rfl gd_Model_rule_31 ⟨rfl, ?_⟩
        unfold x_Model_rule
        rw [if_neg c216, if_pos c220, if_neg c221]
    · have hz : True := trivial
      refine gh_sipush gd_Model_rule_15 (by decide) (gh_r0 rfl) ?_
      refine gh_ret0 rfl gd_Model_rule_18 ⟨rfl, ?_⟩
      unfold x_Model_rule
      rw [if_neg c216, if_neg c220]
def x_Model_part (v1 : Int) (v2 : Int) (m : gh_M) : Int := (if (m 63 24) = 0 then (-1003) else (if p_Model_isRule v1 m then (if (¬ (v2 < 0) ∧ (v2 ≤ ((m 80 v1) - 1))) then (m 81 ((4 * v1) + v2)) else (-1001)) else (-1001)))
def k_Model_part (v1 : Int) (v2 : Int) (m : gh_M) : Prop := (¬ ((m 63 24) = 0) → (k_Model_isRule v1 m ∧ ((p_Model_isRule v1 m) → (0 ≤ v1 ∧ v1 < 20 ∧ gh_i ((m 80 v1) - 1) ∧ (((¬ (v2 < 0) ∧ (v2 ≤ ((m 80 v1) - 1)))) → (gh_i (4 * v1) ∧ gh_i ((4 * v1) + v2) ∧ 0 ≤ (4 * v1) + v2 ∧ ((4 * v1) + v2) < 80))))))
theorem e_Model_part {E : gh_E} {m : gh_M} (d : Nat) (v1 : Int) (v2 : Int) (hF : gh_F m) (hk : k_Model_part v1 v2 m) : gh_C E gh_yModel_part prog_14_method_50_code 3 (some .int) 0 (d + 2) [(2, 63), (0, v1), (0, v2)] m (fun r m1 => m1 = m ∧ r = x_Model_part v1 v2 m) := by
  refine gh_enter2 (L := [(0, 2, 63), (1, 0, v1), (2, 0, v2)]) (by decide +kernel) gh_rt0 (Nat.le_of_ble_eq_true rfl) rfl rfl ?_
  unfold k_Model_part at hk
  refine gh_aload_n gd_Model_part_0 0 rfl (by decide) ?_
  refine gf_63_24 gd_Model_part_1 gh_k1391 hF rfl ?_
  refine gh_zne (tgt := 11) gd_Model_part_4 (by decide) (fun c232 => ?_) (fun c232 => ?_)
  · have hz : True := trivial
    refine gh_sipush gd_Model_part_7 (by decide) (gh_r0 rfl) ?_
    refine gh_ret0 rfl gd_Model_part_10 ⟨rfl, ?_⟩
    unfold x_Model_part
    rw [if_pos c232]
  · have hz : True := trivial
    have hk := hk c232
    refine gh_aload_n gd_Model_part_11 0 rfl (by decide) ?_
    refine gh_iload_n gd_Model_part_12 1 rfl ?_
    obtain ⟨q224, hk⟩ := hk
    refine cv_Model_isRule (d := d + 1) gd_Model_part_13 gh_k1832 hF (Nat.le_of_ble_eq_true rfl) (gh_C.pe (e_Model_isRule d v1 hF q224) ?_)
    refine gh_beq (tgt := 48) gd_Model_part_16 (by decide) (fun c233 => ?_) (fun c233 => ?_)
    · have hz : True := trivial
      have hk := hk c233
      refine gh_iload_n gd_Model_part_19 2 rfl ?_
      refine gh_iconst gd_Model_part_20 (gh_r0 rfl) ?_
      refine gh_aload_n gd_Model_part_21 0 rfl (by decide) ?_
      refine gf_63_33 gd_Model_part_22 gh_k1400 hF ?_
      refine gh_iload_n gd_Model_part_25 1 rfl ?_
      obtain ⟨q225, hk⟩ := hk
      obtain ⟨q226, hk⟩ := hk
      refine la_80 gd_Model_part_26 hF q225 q226 rfl ?_
      refine gh_iconst gd_Model_part_27 (gh_r0 rfl) ?_
      obtain ⟨q227, hk⟩ := hk
      refine gh_isub gd_Model_part_28 q227 ?_
      refine cv_Model_in (d := d + 1) gd_Model_part_29 gh_k1628 (Nat.le_of_ble_eq_true rfl) (gh_C.pe (e_Model_in (d + 1) v2 0 ((m 80 v1) - 1)) ?_)
      refine gh_beq (tgt := 48) gd_Model_part_32 (by decide) (fun c234 => ?_) (fun c234 => ?_)
      · have hz : True := trivial
        have hk := hk c234
        refine gh_aload_n gd_Model_part_35 0 rfl (by decide) ?_
        refine gf_63_34 gd_Model_part_36 gh_k1401 hF ?_
        refine gh_iconst gd_Model_part_39 (gh_r0 rfl) ?_
        refine gh_iload_n gd_Model_part_40 1 rfl ?_
        obtain ⟨q228, hk⟩ := hk
        refine gh_imul gd_Model_part_41 q228 ?_
        refine gh_iload_n gd_Model_part_42 2 rfl ?_
        obtain ⟨q229, hk⟩ := hk
        refine gh_iadd gd_Model_part_43 q229 ?_
        obtain ⟨q230, hk⟩ := hk
        have q231 := hk
        refine la_81 gd_Model_part_44 hF q230 q231 rfl ?_
        refine gh_goto (tgt := 51) gd_Model_part_45 (by decide) ?_
        refine gh_ret0 rfl gd_Model_part_51 ⟨rfl, ?_⟩
        unfold x_Model_part
        rw [if_neg c232, if_pos c233, if_pos c234]
      · have hz : True := trivial
        refine gh_sipush gd_Model_part_48 (by decide) (gh_r0 rfl) ?_
        refine gh_ret0 rfl gd_Model_part_51 ⟨rfl, ?_⟩
        unfold x_Model_part
        rw [if_neg c232, if_pos c233, if_neg c234]
    · have hz : True := trivial
      refine gh_sipush gd_Model_part_48 (by decide) (gh_r0 rfl) ?_
      refine gh_ret0 rfl gd_Model_part_51 ⟨rfl, ?_⟩
      unfold x_Model_part
      rw [if_neg c232, if_neg c233]
def x_Model_first (v1 : Int) (m : gh_M) : Int := (if (m 63 24) = 0 then (-1003) else (if p_Model_isName v1 m then (m 86 v1) else (-1001)))
def k_Model_first (v1 : Int) (m : gh_M) : Prop := (¬ ((m 63 24) = 0) → (k_Model_isName v1 m ∧ ((p_Model_isName v1 m) → (0 ≤ v1 ∧ v1 < 8))))
theorem e_Model_first {E : gh_E} {m : gh_M} (d : Nat) (v1 : Int) (hF : gh_F m) (hk : k_Model_first v1 m) : gh_C E gh_yModel_first prog_14_method_51_code 2 (some .int) 0 (d + 2) [(2, 63), (0, v1)] m (fun r m1 => m1 = m ∧ r = x_Model_first v1 m) := by
  refine gh_enter2 (L := [(0, 2, 63), (1, 0, v1)]) (by decide +kernel) gh_rt0 (Nat.le_of_ble_eq_true rfl) rfl rfl ?_
  unfold k_Model_first at hk
  refine gh_aload_n gd_Model_first_0 0 rfl (by decide) ?_
  refine gf_63_24 gd_Model_first_1 gh_k1391 hF rfl ?_
  refine gh_zne (tgt := 13) gd_Model_first_4 (by decide) (fun c238 => ?_) (fun c238 => ?_)
  · have hz : True := trivial
    refine gh_sipush gd_Model_first_7 (by decide) (gh_r0 rfl) ?_
    refine gh_goto (tgt := 33) gd_Model_first_10 (by decide) ?_
    refine gh_ret0 rfl gd_Model_first_33 ⟨rfl, ?_⟩
    unfold x_Model_first
    rw [if_pos c238]
  · have hz : True := trivial
    have hk := hk c238
    refine gh_aload_n gd_Model_first_13 0 rfl (by decide) ?_
    refine gh_iload_n gd_Model_first_14 1 rfl ?_
    obtain ⟨q235, hk⟩ := hk
    refine cv_Model_isName (d := d + 1) gd_Model_first_15 gh_k1813 hF (Nat.le_of_ble_eq_true rfl) (gh_C.pe (e_Model_isName d v1 hF q235) ?_)
    refine gh_beq (tgt := 30) gd_Model_first_18 (by decide) (fun c239 => ?_) (fun c239 => ?_)
    · have hz : True := trivial
      have hk := hk c239
      refine gh_aload_n gd_Model_first_21 0 rfl (by decide) ?_
      refine gf_63_39 gd_Model_first_22 gh_k1406 hF ?_
      refine gh_iload_n gd_Model_first_25 1 rfl ?_
      obtain ⟨q236, hk⟩ := hk
      have q237 := hk
      refine la_86 gd_Model_first_26 hF q236 q237 rfl ?_
      refine gh_goto (tgt := 33) gd_Model_first_27 (by decide) ?_
      refine gh_ret0 rfl gd_Model_first_33 ⟨rfl, ?_⟩
      unfold x_Model_first
      rw [if_neg c238, if_pos c239]
    · have hz : True := trivial
      refine gh_sipush gd_Model_first_30 (by decide) (gh_r0 rfl) ?_
      refine gh_ret0 rfl gd_Model_first_33 ⟨rfl, ?_⟩
      unfold x_Model_first
      rw [if_neg c238, if_neg c239]
def x_Model_follow (v1 : Int) (m : gh_M) : Int := (if (m 63 24) = 0 then (-1003) else (if p_Model_isName v1 m then (m 87 v1) else (-1001)))
def k_Model_follow (v1 : Int) (m : gh_M) : Prop := (¬ ((m 63 24) = 0) → (k_Model_isName v1 m ∧ ((p_Model_isName v1 m) → (0 ≤ v1 ∧ v1 < 8))))
theorem e_Model_follow {E : gh_E} {m : gh_M} (d : Nat) (v1 : Int) (hF : gh_F m) (hk : k_Model_follow v1 m) : gh_C E gh_yModel_follow prog_14_method_52_code 2 (some .int) 0 (d + 2) [(2, 63), (0, v1)] m (fun r m1 => m1 = m ∧ r = x_Model_follow v1 m) := by
  refine gh_enter2 (L := [(0, 2, 63), (1, 0, v1)]) (by decide +kernel) gh_rt0 (Nat.le_of_ble_eq_true rfl) rfl rfl ?_
  unfold k_Model_follow at hk
  refine gh_aload_n gd_Model_follow_0 0 rfl (by decide) ?_
  refine gf_63_24 gd_Model_follow_1 gh_k1391 hF rfl ?_
  refine gh_zne (tgt := 13) gd_Model_follow_4 (by decide) (fun c243 => ?_) (fun c243 => ?_)
  · have hz : True := trivial
    refine gh_sipush gd_Model_follow_7 (by decide) (gh_r0 rfl) ?_
    refine gh_goto (tgt := 33) gd_Model_follow_10 (by decide) ?_
    refine gh_ret0 rfl gd_Model_follow_33 ⟨rfl, ?_⟩
    unfold x_Model_follow
    rw [if_pos c243]
  · have hz : True := trivial
    have hk := hk c243
    refine gh_aload_n gd_Model_follow_13 0 rfl (by decide) ?_
    refine gh_iload_n gd_Model_follow_14 1 rfl ?_
    obtain ⟨q240, hk⟩ := hk
    refine cv_Model_isName (d := d + 1) gd_Model_follow_15 gh_k1813 hF (Nat.le_of_ble_eq_true rfl) (gh_C.pe (e_Model_isName d v1 hF q240) ?_)
    refine gh_beq (tgt := 30) gd_Model_follow_18 (by decide) (fun c244 => ?_) (fun c244 => ?_)
    · have hz : True := trivial
      have hk := hk c244
      refine gh_aload_n gd_Model_follow_21 0 rfl (by decide) ?_
      refine gf_63_40 gd_Model_follow_22 gh_k1407 hF ?_
      refine gh_iload_n gd_Model_follow_25 1 rfl ?_
      obtain ⟨q241, hk⟩ := hk
      have q242 := hk
      refine la_87 gd_Model_follow_26 hF q241 q242 rfl ?_
      refine gh_goto (tgt := 33) gd_Model_follow_27 (by decide) ?_
      refine gh_ret0 rfl gd_Model_follow_33 ⟨rfl, ?_⟩
      unfold x_Model_follow
      rw [if_neg c243, if_pos c244]
    · have hz : True := trivial
      refine gh_sipush gd_Model_follow_30 (by decide) (gh_r0 rfl) ?_
      refine gh_ret0 rfl gd_Model_follow_33 ⟨rfl, ?_⟩
      unfold x_Model_follow
      rw [if_neg c243, if_neg c244]
abbrev p_Model_isPlace (v1 : Int) (m : gh_M) : Prop := ¬ ((m 63 24) = 0) ∧ ((¬ (v1 < 0) ∧ (v1 ≤ (m 63 50))))
theorem e_Model_isPlace {E : gh_E} {m : gh_M} (d : Nat) (v1 : Int) (hF : gh_F m) : gh_C E gh_yModel_isPlace prog_14_method_46_code 2 (some .boolean) 8 (d + 1) [(2, 63), (0, v1)] m (fun r m1 => m1 = m ∧ r = (if p_Model_isPlace v1 m then (1:Int) else 0)) := by
  refine gh_enter2 (L := [(0, 2, 63), (1, 0, v1)]) (by decide +kernel) gh_rt8 (Nat.le_of_ble_eq_true rfl) rfl rfl ?_
  refine gh_aload_n gd_Model_isPlace_0 0 rfl (by decide) ?_
  refine gf_63_24 gd_Model_isPlace_1 gh_k1391 hF rfl ?_
  refine gh_zeq (tgt := 23) gd_Model_isPlace_4 (by decide) (fun c245 => ?_) (fun c245 => ?_)
  · have hz : True := trivial
    refine gh_iconst gd_Model_isPlace_23 (gh_r0 rfl) ?_
    refine gh_ret8 rfl gd_Model_isPlace_24 (by decide) ⟨rfl, ?_⟩
    exact (if_neg (c := p_Model_isPlace v1 m) (fun z => z.1 c245)).symm
  · have hz : True := trivial
    refine gh_iload_n gd_Model_isPlace_7 1 rfl ?_
    refine gh_iconst gd_Model_isPlace_8 (gh_r0 rfl) ?_
    refine gh_aload_n gd_Model_isPlace_9 0 rfl (by decide) ?_
    refine gf_63_50 gd_Model_isPlace_10 gh_k1417 hF rfl ?_
    refine cv_Model_in (d := d) gd_Model_isPlace_13 gh_k1628 (Nat.le_of_ble_eq_true rfl) (gh_C.pe (e_Model_in d v1 0 (m 63 50)) ?_)
    refine gh_beq (tgt := 23) gd_Model_isPlace_16 (by decide) (fun c246 => ?_) (fun c246 => ?_)
    · have hz : True := trivial
      refine gh_iconst gd_Model_isPlace_19 (gh_r0 rfl) ?_
      refine gh_goto (tgt := 24) gd_Model_isPlace_20 (by decide) ?_
      refine gh_ret8 rfl gd_Model_isPlace_24 (by decide) ⟨rfl, ?_⟩
      exact (if_pos (c := p_Model_isPlace v1 m) ⟨c245, c246⟩).symm
    · have hz : True := trivial
      refine gh_iconst gd_Model_isPlace_23 (gh_r0 rfl) ?_
      refine gh_ret8 rfl gd_Model_isPlace_24 (by decide) ⟨rfl, ?_⟩
      exact (if_neg (c := p_Model_isPlace v1 m) (fun z => c246 z.2)).symm
def x_Model_letter (v1 : Int) (m : gh_M) : Int := (if (m 63 24) = 0 then (-1003) else (if (¬ (v1 < 0) ∧ (v1 ≤ ((m 63 50) - 1))) then (m 96 v1) else (-1001)))
def k_Model_letter (v1 : Int) (m : gh_M) : Prop := (¬ ((m 63 24) = 0) → (gh_i ((m 63 50) - 1) ∧ (((¬ (v1 < 0) ∧ (v1 ≤ ((m 63 50) - 1)))) → (0 ≤ v1 ∧ v1 < 8))))
theorem e_Model_letter {E : gh_E} {m : gh_M} (d : Nat) (v1 : Int) (hF : gh_F m) (hk : k_Model_letter v1 m) : gh_C E gh_yModel_letter prog_14_method_75_code 2 (some .int) 0 (d + 1) [(2, 63), (0, v1)] m (fun r m1 => m1 = m ∧ r = x_Model_letter v1 m) := by
  refine gh_enter2 (L := [(0, 2, 63), (1, 0, v1)]) (by decide +kernel) gh_rt0 (Nat.le_of_ble_eq_true rfl) rfl rfl ?_
  unfold k_Model_letter at hk
  refine gh_aload_n gd_Model_letter_0 0 rfl (by decide) ?_
  refine gf_63_24 gd_Model_letter_1 gh_k1391 hF rfl ?_
  refine gh_zne (tgt := 13) gd_Model_letter_4 (by decide) (fun c250 => ?_) (fun c250 => ?_)
  · have hz : True := trivial
    refine gh_sipush gd_Model_letter_7 (by decide) (gh_r0 rfl) ?_
    refine gh_goto (tgt := 39) gd_Model_letter_10 (by decide) ?_
    refine gh_ret0 rfl gd_Model_letter_39 ⟨rfl, ?_⟩
    unfold x_Model_letter
    rw [if_pos c250]
  · have hz : True := trivial
    have hk := hk c250
    refine gh_iload_n gd_Model_letter_13 1 rfl ?_
    refine gh_iconst gd_Model_letter_14 (gh_r0 rfl) ?_
    refine gh_aload_n gd_Model_letter_15 0 rfl (by decide) ?_
    refine gf_63_50 gd_Model_letter_16 gh_k1417 hF rfl ?_
    refine gh_iconst gd_Model_letter_19 (gh_r0 rfl) ?_
    obtain ⟨q247, hk⟩ := hk
    refine gh_isub gd_Model_letter_20 q247 ?_
    refine cv_Model_in (d := d) gd_Model_letter_21 gh_k1628 (Nat.le_of_ble_eq_true rfl) (gh_C.pe (e_Model_in d v1 0 ((m 63 50) - 1)) ?_)
    refine gh_beq (tgt := 36) gd_Model_letter_24 (by decide) (fun c251 => ?_) (fun c251 => ?_)
    · have hz : True := trivial
      have hk := hk c251
      refine gh_aload_n gd_Model_letter_27 0 rfl (by decide) ?_
      refine gf_63_51 gd_Model_letter_28 gh_k1418 hF ?_
      refine gh_iload_n gd_Model_letter_31 1 rfl ?_
      obtain ⟨q248, hk⟩ := hk
      have q249 := hk
      refine la_96 gd_Model_letter_32 hF q248 q249 rfl ?_
      refine gh_goto (tgt := 39) gd_Model_letter_33 (by decide) ?_
      refine gh_ret0 rfl gd_Model_letter_39 ⟨rfl, ?_⟩
      unfold x_Model_letter
      rw [if_neg c250, if_pos c251]
    · have hz : True := trivial
      refine gh_sipush gd_Model_letter_36 (by decide) (gh_r0 rfl) ?_
      refine gh_ret0 rfl gd_Model_letter_39 ⟨rfl, ?_⟩
      unfold x_Model_letter
      rw [if_neg c250, if_neg c251]
theorem e_Model_begun {E : gh_E} {m : gh_M} (d : Nat) (v0 : Int) (v1 : Int) (v2 : Int) (v3 : Int) (hk : gh_i (405 * v0) ∧ gh_i (81 * v1) ∧ gh_i ((405 * v0) + (81 * v1)) ∧ gh_i (9 * v2) ∧ gh_i (((405 * v0) + (81 * v1)) + (9 * v2)) ∧ gh_i ((((405 * v0) + (81 * v1)) + (9 * v2)) + v3)) : gh_C E gh_yModel_begun prog_14_method_67_code 4 (some .int) 0 (d + 0) [(0, v0), (0, v1), (0, v2), (0, v3)] m (fun r m1 => m1 = m ∧ r = ((((405 * v0) + (81 * v1)) + (9 * v2)) + v3)) := by
  refine gh_enter2 (L := [(0, 0, v0), (1, 0, v1), (2, 0, v2), (3, 0, v3)]) (by decide +kernel) gh_rt0 (Nat.le_of_ble_eq_true rfl) rfl rfl ?_
  refine gh_sipush gd_Model_begun_0 (by decide) (gh_r0 rfl) ?_
  refine gh_iload_n gd_Model_begun_3 0 rfl ?_
  obtain ⟨q252, hk⟩ := hk
  refine gh_imul gd_Model_begun_4 q252 ?_
  refine gh_bipush gd_Model_begun_5 (by decide) (gh_r0 rfl) ?_
  refine gh_iload_n gd_Model_begun_7 1 rfl ?_
  obtain ⟨q253, hk⟩ := hk
  refine gh_imul gd_Model_begun_8 q253 ?_
  obtain ⟨q254, hk⟩ := hk
  refine gh_iadd gd_Model_begun_9 q254 ?_
  refine gh_bipush gd_Model_begun_10 (by decide) (gh_r0 rfl) ?_
  refine gh_iload_n gd_Model_begun_12 2 rfl ?_
  obtain ⟨q255, hk⟩ := hk
  refine gh_imul gd_Model_begun_13 q255 ?_
  obtain ⟨q256, hk⟩ := hk
  refine gh_iadd gd_Model_begun_14 q256 ?_
  refine gh_iload_n gd_Model_begun_15 3 rfl ?_
  have q257 := hk
  refine gh_iadd gd_Model_begun_16 q257 ?_
  refine gh_ret0 rfl gd_Model_begun_17 ⟨rfl, ?_⟩
  rfl
def x_Model_partMakes (v1 : Int) (v2 : Int) (v3 : Int) (m : gh_M) : Int := (if v1 ≤ 0 then (m 97 (((81 * ((-1) - v1)) + (9 * v2)) + v3)) else (if v3 = (v2 + 1) then (if (gh_iand_f (gh_ishr_f v1 (m 96 v2)) 1) = 1 then 1 else 0) else 0))
def k_Model_partMakes (v1 : Int) (v2 : Int) (v3 : Int) (m : gh_M) : Prop := ((v1 ≤ 0) → (gh_i ((-1) - v1) ∧ gh_i (81 * ((-1) - v1)) ∧ gh_i (9 * v2) ∧ gh_i ((81 * ((-1) - v1)) + (9 * v2)) ∧ gh_i (((81 * ((-1) - v1)) + (9 * v2)) + v3) ∧ 0 ≤ ((81 * ((-1) - v1)) + (9 * v2)) + v3 ∧ (((81 * ((-1) - v1)) + (9 * v2)) + v3) < 648 ∧ (m 97 (((81 * ((-1) - v1)) + (9 * v2)) + v3) = 0 ∨ m 97 (((81 * ((-1) - v1)) + (9 * v2)) + v3) = 1))) ∧ (¬ (v1 ≤ 0) → (gh_i (v2 + 1) ∧ ((v3 = (v2 + 1)) → (0 ≤ v2 ∧ v2 < 8))))
theorem e_Model_partMakes {E : gh_E} {m : gh_M} (d : Nat) (v1 : Int) (v2 : Int) (v3 : Int) (hF : gh_F m) (hk : k_Model_partMakes v1 v2 v3 m) : gh_C E gh_yModel_partMakes prog_14_method_68_code 4 (some .boolean) 8 (d + 0) [(2, 63), (0, v1), (0, v2), (0, v3)] m (fun r m1 => m1 = m ∧ r = x_Model_partMakes v1 v2 v3 m) := by
  refine gh_enter2 (L := [(0, 2, 63), (1, 0, v1), (2, 0, v2), (3, 0, v3)]) (by decide +kernel) gh_rt8 (Nat.le_of_ble_eq_true rfl) rfl rfl ?_
  unfold k_Model_partMakes at hk
  refine gh_iload_n gd_Model_partMakes_0 1 rfl ?_
  refine gh_zle (tgt := 33) gd_Model_partMakes_1 (by decide) (fun c269 => ?_) (fun c269 => ?_)
  · have hz : True := trivial
    have hk := hk.1 c269
    refine gh_aload_n gd_Model_partMakes_33 0 rfl (by decide) ?_
    refine gf_63_53 gd_Model_partMakes_34 gh_k1420 hF ?_
    refine gh_bipush gd_Model_partMakes_37 (by decide) (gh_r0 rfl) ?_
    refine gh_iconst gd_Model_partMakes_39 (gh_r0 rfl) ?_
    refine gh_iload_n gd_Model_partMakes_40 1 rfl ?_
    obtain ⟨q258, hk⟩ := hk
    refine gh_isub gd_Model_partMakes_41 q258 ?_
    obtain ⟨q259, hk⟩ := hk
    refine gh_imul gd_Model_partMakes_42 q259 ?_
    refine gh_bipush gd_Model_partMakes_43 (by decide) (gh_r0 rfl) ?_
    refine gh_iload_n gd_Model_partMakes_45 2 rfl ?_
    obtain ⟨q260, hk⟩ := hk
    refine gh_imul gd_Model_partMakes_46 q260 ?_
    obtain ⟨q261, hk⟩ := hk
    refine gh_iadd gd_Model_partMakes_47 q261 ?_
    refine gh_iload_n gd_Model_partMakes_48 3 rfl ?_
    obtain ⟨q262, hk⟩ := hk
    refine gh_iadd gd_Model_partMakes_49 q262 ?_
    obtain ⟨q263, hk⟩ := hk
    obtain ⟨q264, hk⟩ := hk
    refine la_97 gd_Model_partMakes_50 hF q263 q264 rfl ?_
    have q265 := hk
    refine gh_ret8 rfl gd_Model_partMakes_51 q265 ⟨rfl, ?_⟩
    unfold x_Model_partMakes
    rw [if_pos c269]
  · have hz : True := trivial
    have hk := hk.2 c269
    refine gh_iload_n gd_Model_partMakes_4 3 rfl ?_
    refine gh_iload_n gd_Model_partMakes_5 2 rfl ?_
    refine gh_iconst gd_Model_partMakes_6 (gh_r0 rfl) ?_
    obtain ⟨q266, hk⟩ := hk
    refine gh_iadd gd_Model_partMakes_7 q266 ?_
    refine gh_jne (tgt := 29) gd_Model_partMakes_8 (by decide) (fun c270 => ?_) (fun c270 => ?_)
    · have hz : True := trivial
      have hk := hk c270
      refine gh_iload_n gd_Model_partMakes_11 1 rfl ?_
      refine gh_aload_n gd_Model_partMakes_12 0 rfl (by decide) ?_
      refine gf_63_51 gd_Model_partMakes_13 gh_k1418 hF ?_
      refine gh_iload_n gd_Model_partMakes_16 2 rfl ?_
      obtain ⟨q267, hk⟩ := hk
      have q268 := hk
      refine la_96 gd_Model_partMakes_17 hF q267 q268 rfl ?_
      refine gh_ishr gd_Model_partMakes_18 ?_
      refine gh_iconst gd_Model_partMakes_19 (gh_r0 rfl) ?_
      refine gh_iand gd_Model_partMakes_20 ?_
      refine gh_iconst gd_Model_partMakes_21 (gh_r0 rfl) ?_
      refine gh_jne (tgt := 29) gd_Model_partMakes_22 (by decide) (fun c271 => ?_) (fun c271 => ?_)
      · have hz : True := trivial
        refine gh_iconst gd_Model_partMakes_25 (gh_r0 rfl) ?_
        refine gh_goto (tgt := 51) gd_Model_partMakes_26 (by decide) ?_
        refine gh_ret8 rfl gd_Model_partMakes_51 (by decide) ⟨rfl, ?_⟩
        unfold x_Model_partMakes
        rw [if_neg c269, if_pos c270, if_pos c271]
      · have hz : True := trivial
        refine gh_iconst gd_Model_partMakes_29 (gh_r0 rfl) ?_
        refine gh_goto (tgt := 51) gd_Model_partMakes_30 (by decide) ?_
        refine gh_ret8 rfl gd_Model_partMakes_51 (by decide) ⟨rfl, ?_⟩
        unfold x_Model_partMakes
        rw [if_neg c269, if_pos c270, if_neg c271]
    · have hz : True := trivial
      refine gh_iconst gd_Model_partMakes_29 (gh_r0 rfl) ?_
      refine gh_goto (tgt := 51) gd_Model_partMakes_30 (by decide) ?_
      refine gh_ret8 rfl gd_Model_partMakes_51 (by decide) ⟨rfl, ?_⟩
      unfold x_Model_partMakes
      rw [if_neg c269, if_neg c270]
abbrev p_Model_isItemAt (v1 : Int) (v2 : Int) (v3 : Int) (v4 : Int) (m : gh_M) : Prop := (v3 ≤ v4) ∧ (¬ ((m 99 ((9 * (m 79 v1)) + v3)) = 0) ∧ (¬ ((m 98 (((((405 * v1) + (81 * v2)) + (9 * v3)) + v4))) = 0)))
def k_Model_isItemAt (v1 : Int) (v2 : Int) (v3 : Int) (v4 : Int) (m : gh_M) : Prop := ((v3 ≤ v4) → (0 ≤ v1 ∧ v1 < 20 ∧ gh_i (9 * (m 79 v1)) ∧ gh_i ((9 * (m 79 v1)) + v3) ∧ 0 ≤ (9 * (m 79 v1)) + v3 ∧ ((9 * (m 79 v1)) + v3) < 72 ∧ (¬ ((m 99 ((9 * (m 79 v1)) + v3)) = 0) → ((gh_i (405 * v1) ∧ gh_i (81 * v2) ∧ gh_i ((405 * v1) + (81 * v2)) ∧ gh_i (9 * v3) ∧ gh_i (((405 * v1) + (81 * v2)) + (9 * v3)) ∧ gh_i ((((405 * v1) + (81 * v2)) + (9 * v3)) + v4)) ∧ 0 ≤ ((((405 * v1) + (81 * v2)) + (9 * v3)) + v4) ∧ (((((405 * v1) + (81 * v2)) + (9 * v3)) + v4)) < 8100))))
theorem e_Model_isItemAt {E : gh_E} {m : gh_M} (d : Nat) (v1 : Int) (v2 : Int) (v3 : Int) (v4 : Int) (hF : gh_F m) (hk : k_Model_isItemAt v1 v2 v3 v4 m) : gh_C E gh_yModel_isItemAt prog_14_method_77_code 5 (some .boolean) 8 (d + 1) [(2, 63), (0, v1), (0, v2), (0, v3), (0, v4)] m (fun r m1 => m1 = m ∧ r = (if p_Model_isItemAt v1 v2 v3 v4 m then (1:Int) else 0)) := by
  refine gh_enter2 (L := [(0, 2, 63), (1, 0, v1), (2, 0, v2), (3, 0, v3), (4, 0, v4)]) (by decide +kernel) gh_rt8 (Nat.le_of_ble_eq_true rfl) rfl rfl ?_
  unfold k_Model_isItemAt at hk
  refine gh_iload_n gd_Model_isItemAt_0 3 rfl ?_
  refine gh_iload gd_Model_isItemAt_1 4 rfl ?_
  refine gh_jgt (tgt := 45) gd_Model_isItemAt_3 (by decide) (fun c281 => ?_) (fun c281 => ?_)
  · have hz : True := trivial
    have hk := hk c281
    refine gh_aload_n gd_Model_isItemAt_6 0 rfl (by decide) ?_
    refine gf_63_55 gd_Model_isItemAt_7 gh_k1422 hF ?_
    refine gh_bipush gd_Model_isItemAt_10 (by decide) (gh_r0 rfl) ?_
    refine gh_aload_n gd_Model_isItemAt_12 0 rfl (by decide) ?_
    refine gf_63_32 gd_Model_isItemAt_13 gh_k1399 hF ?_
    refine gh_iload_n gd_Model_isItemAt_16 1 rfl ?_
    obtain ⟨q272, hk⟩ := hk
    obtain ⟨q273, hk⟩ := hk
    refine la_79 gd_Model_isItemAt_17 hF q272 q273 rfl ?_
    obtain ⟨q274, hk⟩ := hk
    refine gh_imul gd_Model_isItemAt_18 q274 ?_
    refine gh_iload_n gd_Model_isItemAt_19 3 rfl ?_
    obtain ⟨q275, hk⟩ := hk
    refine gh_iadd gd_Model_isItemAt_20 q275 ?_
    obtain ⟨q276, hk⟩ := hk
    obtain ⟨q277, hk⟩ := hk
    refine la_99 gd_Model_isItemAt_21 hF q276 q277 rfl ?_
    refine gh_zeq (tgt := 45) gd_Model_isItemAt_22 (by decide) (fun c282 => ?_) (fun c282 => ?_)
    · have hz : True := trivial
      refine gh_iconst gd_Model_isItemAt_45 (gh_r0 rfl) ?_
      refine gh_ret8 rfl gd_Model_isItemAt_46 (by decide) ⟨rfl, ?_⟩
      exact (if_neg (c := p_Model_isItemAt v1 v2 v3 v4 m) (fun z => (fun z => z.1 c282) z.2)).symm
    · have hz : True := trivial
      have hk := hk c282
      refine gh_aload_n gd_Model_isItemAt_25 0 rfl (by decide) ?_
      refine gf_63_54 gd_Model_isItemAt_26 gh_k1421 hF ?_
      refine gh_iload_n gd_Model_isItemAt_29 1 rfl ?_
      refine gh_iload_n gd_Model_isItemAt_30 2 rfl ?_
      refine gh_iload_n gd_Model_isItemAt_31 3 rfl ?_
      refine gh_iload gd_Model_isItemAt_32 4 rfl ?_
      obtain ⟨q278, hk⟩ := hk
      refine cv_Model_begun (d := d) gd_Model_isItemAt_34 gh_k1904 (Nat.le_of_ble_eq_true rfl) (gh_C.pe (e_Model_begun d v1 v2 v3 v4 q278) ?_)
      obtain ⟨q279, hk⟩ := hk
      have q280 := hk
      refine la_98 gd_Model_isItemAt_37 hF q279 q280 rfl ?_
      refine gh_zeq (tgt := 45) gd_Model_isItemAt_38 (by decide) (fun c283 => ?_) (fun c283 => ?_)
      · have hz : True := trivial
        refine gh_iconst gd_Model_isItemAt_45 (gh_r0 rfl) ?_
        refine gh_ret8 rfl gd_Model_isItemAt_46 (by decide) ⟨rfl, ?_⟩
        exact (if_neg (c := p_Model_isItemAt v1 v2 v3 v4 m) (fun z => (fun z => (not_not_intro c283) z.2) z.2)).symm
      · have hz : True := trivial
        refine gh_iconst gd_Model_isItemAt_41 (gh_r0 rfl) ?_
        refine gh_goto (tgt := 46) gd_Model_isItemAt_42 (by decide) ?_
        refine gh_ret8 rfl gd_Model_isItemAt_46 (by decide) ⟨rfl, ?_⟩
        exact (if_pos (c := p_Model_isItemAt v1 v2 v3 v4 m) ⟨c281, ⟨c282, c283⟩⟩).symm
  · have hz : True := trivial
    refine gh_iconst gd_Model_isItemAt_45 (gh_r0 rfl) ?_
    refine gh_ret8 rfl gd_Model_isItemAt_46 (by decide) ⟨rfl, ?_⟩
    exact (if_neg (c := p_Model_isItemAt v1 v2 v3 v4 m) (fun z => c281 z.1)).symm
def x_Model_sumOf (v0 : Int) (v1 : Int) : Int := (if (v0 + v1) ≤ 1000000000 then (v0 + v1) else 1000000000)
def k_Model_sumOf (v0 : Int) (v1 : Int) : Prop := gh_i (v0 + v1) ∧ (((v0 + v1) ≤ 1000000000) → (gh_i (v0 + v1)))
theorem e_Model_sumOf {E : gh_E} {m : gh_M} (d : Nat) (v0 : Int) (v1 : Int) (hk : k_Model_sumOf v0 v1) : gh_C E gh_yModel_sumOf prog_14_method_82_code 2 (some .int) 0 (d + 0) [(0, v0), (0, v1)] m (fun r m1 => m1 = m ∧ r = x_Model_sumOf v0 v1) := by
  refine gh_enter2 (L := [(0, 0, v0), (1, 0, v1)]) (by decide +kernel) gh_rt0 (Nat.le_of_ble_eq_true rfl) rfl rfl ?_
  unfold k_Model_sumOf at hk
  refine gh_iload_n gd_Model_sumOf_0 0 rfl ?_
  refine gh_iload_n gd_Model_sumOf_1 1 rfl ?_
  obtain ⟨q284, hk⟩ := hk
  refine gh_iadd gd_Model_sumOf_2 q284 ?_
  refine gh_ldcw (n := 1000000000) gd_Model_sumOf_3 gh_k1741 (by decide) (gh_r0 rfl) ?_
  refine gh_jle (tgt := 15) gd_Model_sumOf_6 (by decide) (fun c286 => ?_) (fun c286 => ?_)
  · have hz : True := trivial
    have hk := hk c286
    refine gh_iload_n gd_Model_sumOf_15 0 rfl ?_
    refine gh_iload_n gd_Model_sumOf_16 1 rfl ?_
    have q285 := hk
    refine gh_iadd gd_Model_sumOf_17 q285 ?_
    refine gh_ret0 rfl gd_Model_sumOf_18 ⟨rfl, ?_⟩
    unfold x_Model_sumOf
    rw [if_pos c286]
  · have hz : True := trivial
    refine gh_ldcw (n := 1000000000) gd_Model_sumOf_9 gh_k1741 (by decide) (gh_r0 rfl) ?_
    refine gh_goto (tgt := 18) gd_Model_sumOf_12 (by decide) ?_
    refine gh_ret0 rfl gd_Model_sumOf_18 ⟨rfl, ?_⟩
    unfold x_Model_sumOf
    rw [if_neg c286]
theorem e_Model_keyOf {E : gh_E} {m : gh_M} (d : Nat) (v0 : Int) (v1 : Int) (v2 : Int) (v3 : Int) (hk : gh_i (81 * v0) ∧ ((v1 = v2) → (gh_i ((81 * v0) + 0) ∧ gh_i (256 * ((81 * v0) + 0)) ∧ gh_i ((256 * ((81 * v0) + 0)) + v3))) ∧ (¬ (v1 = v2) → (gh_i (9 * v1) ∧ gh_i ((9 * v1) + v2) ∧ gh_i ((81 * v0) + ((9 * v1) + v2)) ∧ gh_i (256 * ((81 * v0) + ((9 * v1) + v2))) ∧ gh_i ((256 * ((81 * v0) + ((9 * v1) + v2))) + v3)))) : gh_C E gh_yModel_keyOf prog_14_method_88_code 4 (some .int) 0 (d + 0) [(0, v0), (0, v1), (0, v2), (0, v3)] m (fun r m1 => m1 = m ∧ r = (if v1 = v2 then ((256 * ((81 * v0) + 0)) + v3) else ((256 * ((81 * v0) + ((9 * v1) + v2))) + v3))) := by
  refine gh_enter2 (L := [(0, 0, v0), (1, 0, v1), (2, 0, v2), (3, 0, v3)]) (by decide +kernel) gh_rt0 (Nat.le_of_ble_eq_true rfl) rfl rfl ?_
  refine gh_sipush gd_Model_keyOf_0 (by decide) (gh_r0 rfl) ?_
  refine gh_bipush gd_Model_keyOf_3 (by decide) (gh_r0 rfl) ?_
  refine gh_iload_n gd_Model_keyOf_5 0 rfl ?_
  obtain ⟨q287, hk⟩ := hk
  refine gh_imul gd_Model_keyOf_6 q287 ?_
  refine gh_iload_n gd_Model_keyOf_7 1 rfl ?_
  refine gh_iload_n gd_Model_keyOf_8 2 rfl ?_
  refine gh_jne (tgt := 16) gd_Model_keyOf_9 (by decide) (fun c296 => ?_) (fun c296 => ?_)
  · have hz : True := trivial
    have hk := hk.1 c296
    refine gh_iconst gd_Model_keyOf_12 (gh_r0 rfl) ?_
    refine gh_goto (tgt := 22) gd_Model_keyOf_13 (by decide) ?_
    obtain ⟨q288, hk⟩ := hk
    refine gh_iadd gd_Model_keyOf_22 q288 ?_
    obtain ⟨q289, hk⟩ := hk
    refine gh_imul gd_Model_keyOf_23 q289 ?_
    refine gh_iload_n gd_Model_keyOf_24 3 rfl ?_
    have q290 := hk
    refine gh_iadd gd_Model_keyOf_25 q290 ?_
    refine gh_ret0 rfl gd_Model_keyOf_26 ⟨rfl, ?_⟩
    skip
    rw [if_pos c296]
  · have hz : True := trivial
    have hk := hk.2 c296
    refine gh_bipush gd_Model_keyOf_16 (by decide) (gh_r0 rfl) ?_
    refine gh_iload_n gd_Model_keyOf_18 1 rfl ?_
    obtain ⟨q291, hk⟩ := hk
    refine gh_imul gd_Model_keyOf_19 q291 ?_
    refine gh_iload_n gd_Model_keyOf_20 2 rfl ?_
    obtain ⟨q292, hk⟩ := hk
    refine gh_iadd gd_Model_keyOf_21 q292 ?_
    obtain ⟨q293, hk⟩ := hk
    refine gh_iadd gd_Model_keyOf_22 q293 ?_
    obtain ⟨q294, hk⟩ := hk
    refine gh_imul gd_Model_keyOf_23 q294 ?_
    refine gh_iload_n gd_Model_keyOf_24 3 rfl ?_
    have q295 := hk
    refine gh_iadd gd_Model_keyOf_25 q295 ?_
    refine gh_ret0 rfl gd_Model_keyOf_26 ⟨rfl, ?_⟩
    skip
    rw [if_neg c296]
theorem gh_nz64 {y : Int} (h1 : ¬ y = 0) (h : gh_ok 1 y) : ¬ Int64.ofInt y = 0 := by
  intro e
  have e2 := congrArg Int64.toInt e
  rw [gh_i64 h] at e2
  exact h1 (e2.trans (by decide))
/-- the quotient of longs, whatever their signs -/
theorem gh_wldiv {E : gh_E} {M : gh_I} {d pc : Nat} {L : gh_Ls} {st : gh_St} {m : gh_M} {Q : Int → gh_M → Prop} {x y : Int} (hd : decode M.2.1 pc = .ok (.ldiv, 1)) (h1 : ¬ y = 0) (kk : gh_T E M d (pc + 1) L ((1, (Int64.ofInt x / Int64.ofInt y).toInt) :: st) m Q) : gh_T E M d pc L ((1, y) :: (1, x) :: st) m Q := by
  refine gh_pure kk (fun hp => ?_) (fun hp p e R s mt args below meth c hE H locs cells slots ls Qs hA k => ?_)
  · obtain ⟨hM, hL, hst⟩ := hp
    exact ⟨hM, hL, gh_okc (gh_ok64 _) (gh_okt (gh_okt hst))⟩
  · obtain ⟨hx, hb, hml, hown, hts, -⟩ := hE
    obtain ⟨hM, hL, hst⟩ := hp
    obtain ⟨hR, hS, hl⟩ := hA
    have e : Int64.ofInt (Int64.ofInt x / Int64.ofInt y).toInt = Int64.ofInt x / Int64.ofInt y := Int64.ofInt_toInt _
    exact lv_ldiv hx hb hd (gh_nz64 h1 (gh_okh hst)) (e ▸ k ls ⟨hR, hS, hl⟩)
def x_Model_times (v0 : Int) (v2 : Int) : Int := (if v0 = 0 then 0 else (if v2 = 0 then 0 else (if v0 ≤ (Int64.ofInt 999999999999999999 / Int64.ofInt v2).toInt then (Int64.ofInt v0 * Int64.ofInt v2).toInt else 1000000000000000000)))
def k_Model_times (v0 : Int) (v2 : Int) : Prop := v0 = v0 ∧ v2 = v2
theorem e_Model_times {E : gh_E} {m : gh_M} (d : Nat) (v0 : Int) (v2 : Int) (hk : k_Model_times v0 v2) : gh_C E gh_yModel_times prog_14_method_90_code 4 (some .long) 1 (d + 0) [(1, v0), (1, v2)] m (fun r m1 => m1 = m ∧ r = x_Model_times v0 v2) := by
  refine gh_enter2 (L := [(0, 1, v0), (2, 1, v2)]) (by decide +kernel) gh_rt1 (Nat.le_of_ble_eq_true rfl) rfl rfl ?_
  refine gh_lload_n gd_Model_times_0 0 rfl ?_
  refine gh_lconst (n := 0) gd_Model_times_1 (by decide) (gh_r1 rfl) ?_
  refine gh_lcmp gd_Model_times_2 ?_
  refine gh_ceq (tgt := 12) gd_Model_times_3 (by decide) (fun c299 => ?_) (fun c299 => ?_)
  · have hz : True := trivial
    refine gh_lconst (n := 0) gd_Model_times_12 (by decide) (gh_r1 rfl) ?_
    refine gh_ret1 rfl gd_Model_times_13 ⟨rfl, ?_⟩
    unfold x_Model_times
    rw [if_pos c299]
  · have hz : True := trivial
    refine gh_lload_n gd_Model_times_6 1 rfl ?_
    refine gh_lconst (n := 0) gd_Model_times_7 (by decide) (gh_r1 rfl) ?_
    refine gh_lcmp gd_Model_times_8 ?_
    refine gh_cne (tgt := 14) gd_Model_times_9 (by decide) (fun c300 => ?_) (fun c300 => ?_)
    · have hz : True := trivial
      refine gh_lconst (n := 0) gd_Model_times_12 (by decide) (gh_r1 rfl) ?_
      refine gh_ret1 rfl gd_Model_times_13 ⟨rfl, ?_⟩
      unfold x_Model_times
      rw [if_neg c299, if_pos c300]
    · have hz : True := trivial
      refine gh_lload_n gd_Model_times_14 0 rfl ?_
      refine gh_ldc2 (n := 999999999999999999) gd_Model_times_15 gh_k2000 (by decide) (gh_r1 rfl) ?_
      refine gh_lload_n gd_Model_times_18 1 rfl ?_
      refine gh_wldiv gd_Model_times_19 c300 ?_
      refine gh_lcmp gd_Model_times_20 ?_
      refine gh_cle (tgt := 30) gd_Model_times_21 (by decide) (fun c301 => ?_) (fun c301 => ?_)
      · have hz : True := trivial
        refine gh_lload_n gd_Model_times_30 0 rfl ?_
        refine gh_lload_n gd_Model_times_31 1 rfl ?_
        refine gh_wlmul gd_Model_times_32 ?_
        refine gh_ret1 rfl gd_Model_times_33 ⟨rfl, ?_⟩
        unfold x_Model_times
        rw [if_neg c299, if_neg c300, if_pos c301]
      · have hz : True := trivial
        refine gh_ldc2 (n := 1000000000000000000) gd_Model_times_24 gh_k2001 (by decide) (gh_r1 rfl) ?_
        refine gh_goto (tgt := 33) gd_Model_times_27 (by decide) ?_
        refine gh_ret1 rfl gd_Model_times_33 ⟨rfl, ?_⟩
        unfold x_Model_times
        rw [if_neg c299, if_neg c300, if_neg c301]
def x_Model_plus (v0 : Int) (v2 : Int) : Int := (if (Int64.ofInt v0 + Int64.ofInt v2).toInt ≤ 999999999999999999 then (Int64.ofInt v0 + Int64.ofInt v2).toInt else 1000000000000000000)
def k_Model_plus (v0 : Int) (v2 : Int) : Prop := v0 = v0 ∧ v2 = v2
theorem e_Model_plus {E : gh_E} {m : gh_M} (d : Nat) (v0 : Int) (v2 : Int) (hk : k_Model_plus v0 v2) : gh_C E gh_yModel_plus prog_14_method_89_code 4 (some .long) 1 (d + 0) [(1, v0), (1, v2)] m (fun r m1 => m1 = m ∧ r = x_Model_plus v0 v2) := by
  refine gh_enter2 (L := [(0, 1, v0), (2, 1, v2)]) (by decide +kernel) gh_rt1 (Nat.le_of_ble_eq_true rfl) rfl rfl ?_
  refine gh_lload_n gd_Model_plus_0 0 rfl ?_
  refine gh_lload_n gd_Model_plus_1 1 rfl ?_
  refine gh_wladd gd_Model_plus_2 ?_
  refine gh_ldc2 (n := 999999999999999999) gd_Model_plus_3 gh_k2000 (by decide) (gh_r1 rfl) ?_
  refine gh_lcmp gd_Model_plus_6 ?_
  refine gh_cle (tgt := 16) gd_Model_plus_7 (by decide) (fun c304 => ?_) (fun c304 => ?_)
  · have hz : True := trivial
    refine gh_lload_n gd_Model_plus_16 0 rfl ?_
    refine gh_lload_n gd_Model_plus_17 1 rfl ?_
    refine gh_wladd gd_Model_plus_18 ?_
    refine gh_ret1 rfl gd_Model_plus_19 ⟨rfl, ?_⟩
    unfold x_Model_plus
    rw [if_pos c304]
  · have hz : True := trivial
    refine gh_ldc2 (n := 1000000000000000000) gd_Model_plus_10 gh_k2001 (by decide) (gh_r1 rfl) ?_
    refine gh_goto (tgt := 19) gd_Model_plus_13 (by decide) ?_
    refine gh_ret1 rfl gd_Model_plus_19 ⟨rfl, ?_⟩
    unfold x_Model_plus
    rw [if_neg c304]
def x_Model_step (v1 : Int) (m : gh_M) : Int := (if (m 63 24) = 0 then (-1003) else (if (m 63 68) = 0 then (-1003) else (if (¬ (v1 < 0) ∧ (v1 ≤ ((m 63 68) - 1))) then (m 109 v1) else (-1001))))
def k_Model_step (v1 : Int) (m : gh_M) : Prop := (¬ ((m 63 24) = 0) → ((¬ ((m 63 68) = 0) → (gh_i ((m 63 68) - 1) ∧ (((¬ (v1 < 0) ∧ (v1 ≤ ((m 63 68) - 1)))) → (0 ≤ v1 ∧ v1 < 300))))))
theorem e_Model_step {E : gh_E} {m : gh_M} (d : Nat) (v1 : Int) (hF : gh_F m) (hk : k_Model_step v1 m) : gh_C E gh_yModel_step prog_14_method_103_code 2 (some .int) 0 (d + 1) [(2, 63), (0, v1)] m (fun r m1 => m1 = m ∧ r = x_Model_step v1 m) := by
  refine gh_enter2 (L := [(0, 2, 63), (1, 0, v1)]) (by decide +kernel) gh_rt0 (Nat.le_of_ble_eq_true rfl) rfl rfl ?_
  unfold k_Model_step at hk
  refine gh_aload_n gd_Model_step_0 0 rfl (by decide) ?_
  refine gf_63_24 gd_Model_step_1 gh_k1391 hF rfl ?_
  refine gh_zeq (tgt := 14) gd_Model_step_4 (by decide) (fun c308 => ?_) (fun c308 => ?_)
  · have hz : True := trivial
    refine gh_sipush gd_Model_step_14 (by decide) (gh_r0 rfl) ?_
    refine gh_ret0 rfl gd_Model_step_17 ⟨rfl, ?_⟩
    unfold x_Model_step
    rw [if_pos c308]
  · have hz : True := trivial
    have hk := hk c308
    refine gh_aload_n gd_Model_step_7 0 rfl (by decide) ?_
    refine gf_63_68 gd_Model_step_8 gh_k1435 hF rfl ?_
    refine gh_zne (tgt := 18) gd_Model_step_11 (by decide) (fun c309 => ?_) (fun c309 => ?_)
    · have hz : True := trivial
      refine gh_sipush gd_Model_step_14 (by decide) (gh_r0 rfl) ?_
      refine gh_ret0 rfl gd_Model_step_17 ⟨rfl, ?_⟩
      unfold x_Model_step
      rw [if_neg c308, if_pos c309]
    · have hz : True := trivial
      have hk := hk c309
      refine gh_iload_n gd_Model_step_18 1 rfl ?_
      refine gh_iconst gd_Model_step_19 (gh_r0 rfl) ?_
      refine gh_aload_n gd_Model_step_20 0 rfl (by decide) ?_
      refine gf_63_68 gd_Model_step_21 gh_k1435 hF rfl ?_
      refine gh_iconst gd_Model_step_24 (gh_r0 rfl) ?_
      obtain ⟨q305, hk⟩ := hk
      refine gh_isub gd_Model_step_25 q305 ?_
      refine cv_Model_in (d := d) gd_Model_step_26 gh_k1628 (Nat.le_of_ble_eq_true rfl) (gh_C.pe (e_Model_in d v1 0 ((m 63 68) - 1)) ?_)
      refine gh_beq (tgt := 41) gd_Model_step_29 (by decide) (fun c310 => ?_) (fun c310 => ?_)
      · have hz : True := trivial
        have hk := hk c310
        refine gh_aload_n gd_Model_step_32 0 rfl (by decide) ?_
        refine gf_63_69 gd_Model_step_33 gh_k1436 hF ?_
        refine gh_iload_n gd_Model_step_36 1 rfl ?_
        obtain ⟨q306, hk⟩ := hk
        have q307 := hk
        refine la_109 gd_Model_step_37 hF q306 q307 rfl ?_
        refine gh_goto (tgt := 44) gd_Model_step_38 (by decide) ?_
        refine gh_ret0 rfl gd_Model_step_44 ⟨rfl, ?_⟩
        unfold x_Model_step
        rw [if_neg c308, if_neg c309, if_pos c310]
      · have hz : True := trivial
        refine gh_sipush gd_Model_step_41 (by decide) (gh_r0 rfl) ?_
        refine gh_ret0 rfl gd_Model_step_44 ⟨rfl, ?_⟩
        unfold x_Model_step
        rw [if_neg c308, if_neg c309, if_neg c310]
def x_Model_deep (m : gh_M) : Int := (if (m 63 24) = 0 then (-1003) else (if (m 63 68) = 0 then (-1003) else (m 63 70)))
theorem e_Model_deep {E : gh_E} {m : gh_M} (d : Nat) (hF : gh_F m) : gh_C E gh_yModel_deep prog_14_method_104_code 1 (some .int) 0 (d + 0) [(2, 63)] m (fun r m1 => m1 = m ∧ r = x_Model_deep m) := by
  refine gh_enter2 (L := [(0, 2, 63)]) (by decide +kernel) gh_rt0 (Nat.le_of_ble_eq_true rfl) rfl rfl ?_
  refine gh_aload_n gd_Model_deep_0 0 rfl (by decide) ?_
  refine gf_63_24 gd_Model_deep_1 gh_k1391 hF rfl ?_
  refine gh_zeq (tgt := 14) gd_Model_deep_4 (by decide) (fun c311 => ?_) (fun c311 => ?_)
  · have hz : True := trivial
    refine gh_sipush gd_Model_deep_14 (by decide) (gh_r0 rfl) ?_
    refine gh_goto (tgt := 24) gd_Model_deep_17 (by decide) ?_
    refine gh_ret0 rfl gd_Model_deep_24 ⟨rfl, ?_⟩
    unfold x_Model_deep
    rw [if_pos c311]
  · have hz : True := trivial
    refine gh_aload_n gd_Model_deep_7 0 rfl (by decide) ?_
    refine gf_63_68 gd_Model_deep_8 gh_k1435 hF rfl ?_
    refine gh_zne (tgt := 20) gd_Model_deep_11 (by decide) (fun c312 => ?_) (fun c312 => ?_)
    · have hz : True := trivial
      refine gh_sipush gd_Model_deep_14 (by decide) (gh_r0 rfl) ?_
      refine gh_goto (tgt := 24) gd_Model_deep_17 (by decide) ?_
      refine gh_ret0 rfl gd_Model_deep_24 ⟨rfl, ?_⟩
      unfold x_Model_deep
      rw [if_neg c311, if_pos c312]
    · have hz : True := trivial
      refine gh_aload_n gd_Model_deep_20 0 rfl (by decide) ?_
      refine gf_63_70 gd_Model_deep_21 gh_k1437 hF rfl ?_
      refine gh_ret0 rfl gd_Model_deep_24 ⟨rfl, ?_⟩
      unfold x_Model_deep
      rw [if_neg c311, if_neg c312]
def x_Model_hash (v0 : Int) (v2 : Int) : Int := (Int64.ofInt (Int64.ofInt 31 * Int64.ofInt v0).toInt + Int64.ofInt v2).toInt
theorem e_Model_hash {E : gh_E} {m : gh_M} (d : Nat) (v0 : Int) (v2 : Int) : gh_C E gh_yModel_hash prog_14_method_113_code 4 (some .long) 1 (d + 0) [(1, v0), (1, v2)] m (fun r m1 => m1 = m ∧ r = x_Model_hash v0 v2) := by
  refine gh_enter2 (L := [(0, 1, v0), (2, 1, v2)]) (by decide +kernel) gh_rt1 (Nat.le_of_ble_eq_true rfl) rfl rfl ?_
  refine gh_ldc2 (n := 31) gd_Model_hash_0 gh_k2074 (by decide) (gh_r1 rfl) ?_
  refine gh_lload_n gd_Model_hash_3 0 rfl ?_
  refine gh_wlmul gd_Model_hash_4 ?_
  refine gh_lload_n gd_Model_hash_5 1 rfl ?_
  refine gh_wladd gd_Model_hash_6 ?_
  refine gh_ret1 rfl gd_Model_hash_7 ⟨rfl, ?_⟩
  rfl
