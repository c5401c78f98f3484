def x_Tape_signAt (v1 : Int) (m : gh_M) : Int := (if v1 < 0 then (-1) else (if v1 < (m 3 1) then (if v1 < 240 then (m 4 v1) else (-1)) else (-1)))
def k_Tape_signAt (v1 : Int) (m : gh_M) : Prop := (¬ (v1 < 0) → (((v1 < (m 3 1)) → (((v1 < 240) → (0 ≤ v1 ∧ v1 < 240))))))
theorem e_Tape_signAt {E : gh_E} {m : gh_M} (d : Nat) (v1 : Int) (hF : gh_F m) (hk : k_Tape_signAt v1 m) : gh_C E gh_yTape_signAt prog_10_method_5_code 2 (some .int) 0 (d + 0) [(2, 3), (0, v1)] m (fun r m1 => m1 = m ∧ r = x_Tape_signAt v1 m) := by
  refine gh_enter2 (L := [(0, 2, 3), (1, 0, v1)]) (by decide +kernel) gh_rt0 (Nat.le_of_ble_eq_true rfl) rfl rfl ?_
  unfold k_Tape_signAt at hk
  refine gh_iload_n gd_Tape_signAt_0 1 rfl ?_
  refine gh_zlt (tgt := 28) gd_Tape_signAt_1 (by decide) (fun c3 => ?_) (fun c3 => ?_)
  · have hz : True := trivial
    refine gh_iconst gd_Tape_signAt_28 (gh_r0 rfl) ?_
    refine gh_ret0 rfl gd_Tape_signAt_29 ⟨rfl, ?_⟩
    unfold x_Tape_signAt
    rw [if_pos c3]
  · have hz : True := trivial
    have hk := hk c3
    refine gh_iload_n gd_Tape_signAt_4 1 rfl ?_
    refine gh_aload_n gd_Tape_signAt_5 0 rfl (by decide) ?_
    refine gf_3_1 gd_Tape_signAt_6 gh_k87 hF rfl ?_
    refine gh_jge (tgt := 28) gd_Tape_signAt_9 (by decide) (fun c4 => ?_) (fun c4 => ?_)
    · have hz : True := trivial
      have hk := hk c4
      refine gh_iload_n gd_Tape_signAt_12 1 rfl ?_
      refine gh_sipush gd_Tape_signAt_13 (by decide) (gh_r0 rfl) ?_
      refine gh_jge (tgt := 28) gd_Tape_signAt_16 (by decide) (fun c5 => ?_) (fun c5 => ?_)
      · have hz : True := trivial
        have hk := hk c5
        refine gh_aload_n gd_Tape_signAt_19 0 rfl (by decide) ?_
        refine gf_3_0 gd_Tape_signAt_20 gh_k85 hF ?_
        refine gh_iload_n gd_Tape_signAt_23 1 rfl ?_
        obtain ⟨q1, hk⟩ := hk
        have q2 := hk
        refine la_4 gd_Tape_signAt_24 hF q1 q2 rfl ?_
        refine gh_goto (tgt := 29) gd_Tape_signAt_25 (by decide) ?_
        refine gh_ret0 rfl gd_Tape_signAt_29 ⟨rfl, ?_⟩
        unfold x_Tape_signAt
        rw [if_neg c3, if_pos c4, if_pos c5]
      · have hz : True := trivial
        refine gh_iconst gd_Tape_signAt_28 (gh_r0 rfl) ?_
        refine gh_ret0 rfl gd_Tape_signAt_29 ⟨rfl, ?_⟩
        unfold x_Tape_signAt
        rw [if_neg c3, if_pos c4, if_neg c5]
    · have hz : True := trivial
      refine gh_iconst gd_Tape_signAt_28 (gh_r0 rfl) ?_
      refine gh_ret0 rfl gd_Tape_signAt_29 ⟨rfl, ?_⟩
      unfold x_Tape_signAt
      rw [if_neg c3, if_neg c4]
theorem e_Tape_isFigure {E : gh_E} {m : gh_M} (d : Nat) (v0 : Int) : gh_C E gh_yTape_isFigure prog_10_method_11_code 1 (some .boolean) 8 (d + 0) [(0, v0)] m (fun r m1 => m1 = m ∧ r = (if ¬ (v0 < 48) ∧ (v0 ≤ 57) then (1:Int) else 0)) := by
  refine gh_enter2 (L := [(0, 0, v0)]) (by decide +kernel) gh_rt8 (Nat.le_of_ble_eq_true rfl) rfl rfl ?_
  refine gh_iload_n gd_Tape_isFigure_0 0 rfl ?_
  refine gh_bipush gd_Tape_isFigure_1 (by decide) (gh_r0 rfl) ?_
  refine gh_jlt (tgt := 16) gd_Tape_isFigure_3 (by decide) (fun c6 => ?_) (fun c6 => ?_)
  · have hz : True := trivial
    refine gh_iconst gd_Tape_isFigure_16 (gh_r0 rfl) ?_
    refine gh_ret8 rfl gd_Tape_isFigure_17 (by decide) ⟨rfl, ?_⟩
    exact (if_neg (c := ¬ (v0 < 48) ∧ (v0 ≤ 57)) (fun z => z.1 c6)).symm
  · have hz : True := trivial
    refine gh_iload_n gd_Tape_isFigure_6 0 rfl ?_
    refine gh_bipush gd_Tape_isFigure_7 (by decide) (gh_r0 rfl) ?_
    refine gh_jgt (tgt := 16) gd_Tape_isFigure_9 (by decide) (fun c7 => ?_) (fun c7 => ?_)
    · have hz : True := trivial
      refine gh_iconst gd_Tape_isFigure_12 (gh_r0 rfl) ?_
      refine gh_goto (tgt := 17) gd_Tape_isFigure_13 (by decide) ?_
      refine gh_ret8 rfl gd_Tape_isFigure_17 (by decide) ⟨rfl, ?_⟩
      exact (if_pos (c := ¬ (v0 < 48) ∧ (v0 ≤ 57)) ⟨c6, c7⟩).symm
    · have hz : True := trivial
      refine gh_iconst gd_Tape_isFigure_16 (gh_r0 rfl) ?_
      refine gh_ret8 rfl gd_Tape_isFigure_17 (by decide) ⟨rfl, ?_⟩
      exact (if_neg (c := ¬ (v0 < 48) ∧ (v0 ≤ 57)) (fun z => c7 z.2)).symm
theorem e_Tape_isSmall {E : gh_E} {m : gh_M} (d : Nat) (v0 : Int) : gh_C E gh_yTape_isSmall prog_10_method_12_code 1 (some .boolean) 8 (d + 0) [(0, v0)] m (fun r m1 => m1 = m ∧ r = (if ¬ (v0 < 97) ∧ (v0 ≤ 122) then (1:Int) else 0)) := by
  refine gh_enter2 (L := [(0, 0, v0)]) (by decide +kernel) gh_rt8 (Nat.le_of_ble_eq_true rfl) rfl rfl ?_
  refine gh_iload_n gd_Tape_isSmall_0 0 rfl ?_
  refine gh_bipush gd_Tape_isSmall_1 (by decide) (gh_r0 rfl) ?_
  refine gh_jlt (tgt := 16) gd_Tape_isSmall_3 (by decide) (fun c8 => ?_) (fun c8 => ?_)
  · have hz : True := trivial
    refine gh_iconst gd_Tape_isSmall_16 (gh_r0 rfl) ?_
    refine gh_ret8 rfl gd_Tape_isSmall_17 (by decide) ⟨rfl, ?_⟩
    exact (if_neg (c := ¬ (v0 < 97) ∧ (v0 ≤ 122)) (fun z => z.1 c8)).symm
  · have hz : True := trivial
    refine gh_iload_n gd_Tape_isSmall_6 0 rfl ?_
    refine gh_bipush gd_Tape_isSmall_7 (by decide) (gh_r0 rfl) ?_
    refine gh_jgt (tgt := 16) gd_Tape_isSmall_9 (by decide) (fun c9 => ?_) (fun c9 => ?_)
    · have hz : True := trivial
      refine gh_iconst gd_Tape_isSmall_12 (gh_r0 rfl) ?_
      refine gh_goto (tgt := 17) gd_Tape_isSmall_13 (by decide) ?_
      refine gh_ret8 rfl gd_Tape_isSmall_17 (by decide) ⟨rfl, ?_⟩
      exact (if_pos (c := ¬ (v0 < 97) ∧ (v0 ≤ 122)) ⟨c8, c9⟩).symm
    · have hz : True := trivial
      refine gh_iconst gd_Tape_isSmall_16 (gh_r0 rfl) ?_
      refine gh_ret8 rfl gd_Tape_isSmall_17 (by decide) ⟨rfl, ?_⟩
      exact (if_neg (c := ¬ (v0 < 97) ∧ (v0 ≤ 122)) (fun z => c9 z.2)).symm
abbrev p_Tape_isMark (v0 : Int) : Prop := (v0 = 58) ∨ ((v0 = 59) ∨ ((v0 = 124) ∨ ((v0 = 40) ∨ ((v0 = 41) ∨ ((v0 = 63) ∨ ((v0 = 42) ∨ (v0 = 43)))))))
theorem e_Tape_isMark {E : gh_E} {m : gh_M} (d : Nat) (v0 : Int) : gh_C E gh_yTape_isMark prog_10_method_13_code 1 (some .boolean) 8 (d + 0) [(0, v0)] m (fun r m1 => m1 = m ∧ r = (if p_Tape_isMark v0 then (1:Int) else 0)) := by
  refine gh_enter2 (L := [(0, 0, v0)]) (by decide +kernel) gh_rt8 (Nat.le_of_ble_eq_true rfl) rfl rfl ?_
  refine gh_iload_n gd_Tape_isMark_0 0 rfl ?_
  refine gh_bipush gd_Tape_isMark_1 (by decide) (gh_r0 rfl) ?_
  refine gh_jeq (tgt := 48) gd_Tape_isMark_3 (by decide) (fun c10 => ?_) (fun c10 => ?_)
  · have hz : True := trivial
    refine gh_iconst gd_Tape_isMark_48 (gh_r0 rfl) ?_
    refine gh_goto (tgt := 53) gd_Tape_isMark_49 (by decide) ?_
    refine gh_ret8 rfl gd_Tape_isMark_53 (by decide) ⟨rfl, ?_⟩
    exact (if_pos (c := p_Tape_isMark v0) (Or.inl c10)).symm
  · have hz : True := trivial
    refine gh_iload_n gd_Tape_isMark_6 0 rfl ?_
    refine gh_bipush gd_Tape_isMark_7 (by decide) (gh_r0 rfl) ?_
    refine gh_jeq (tgt := 48) gd_Tape_isMark_9 (by decide) (fun c11 => ?_) (fun c11 => ?_)
    · have hz : True := trivial
      refine gh_iconst gd_Tape_isMark_48 (gh_r0 rfl) ?_
      refine gh_goto (tgt := 53) gd_Tape_isMark_49 (by decide) ?_
      refine gh_ret8 rfl gd_Tape_isMark_53 (by decide) ⟨rfl, ?_⟩
      exact (if_pos (c := p_Tape_isMark v0) (Or.inr (Or.inl c11))).symm
    · have hz : True := trivial
      refine gh_iload_n gd_Tape_isMark_12 0 rfl ?_
      refine gh_bipush gd_Tape_isMark_13 (by decide) (gh_r0 rfl) ?_
      refine gh_jeq (tgt := 48) gd_Tape_isMark_15 (by decide) (fun c12 => ?_) (fun c12 => ?_)
      · have hz : True := trivial
        refine gh_iconst gd_Tape_isMark_48 (gh_r0 rfl) ?_
        refine gh_goto (tgt := 53) gd_Tape_isMark_49 (by decide) ?_
        refine gh_ret8 rfl gd_Tape_isMark_53 (by decide) ⟨rfl, ?_⟩
        exact (if_pos (c := p_Tape_isMark v0) (Or.inr (Or.inr (Or.inl c12)))).symm
      · have hz : True := trivial
        refine gh_iload_n gd_Tape_isMark_18 0 rfl ?_
        refine gh_bipush gd_Tape_isMark_19 (by decide) (gh_r0 rfl) ?_
        refine gh_jeq (tgt := 48) gd_Tape_isMark_21 (by decide) (fun c13 => ?_) (fun c13 => ?_)
        · have hz : True := trivial
          refine gh_iconst gd_Tape_isMark_48 (gh_r0 rfl) ?_
          refine gh_goto (tgt := 53) gd_Tape_isMark_49 (by decide) ?_
          refine gh_ret8 rfl gd_Tape_isMark_53 (by decide) ⟨rfl, ?_⟩
          exact (if_pos (c := p_Tape_isMark v0) (Or.inr (Or.inr (Or.inr (Or.inl c13))))).symm
        · have hz : True := trivial
          refine gh_iload_n gd_Tape_isMark_24 0 rfl ?_
          refine gh_bipush gd_Tape_isMark_25 (by decide) (gh_r0 rfl) ?_
          refine gh_jeq (tgt := 48) gd_Tape_isMark_27 (by decide) (fun c14 => ?_) (fun c14 => ?_)
          · have hz : True := trivial
            refine gh_iconst gd_Tape_isMark_48 (gh_r0 rfl) ?_
            refine gh_goto (tgt := 53) gd_Tape_isMark_49 (by decide) ?_
            refine gh_ret8 rfl gd_Tape_isMark_53 (by decide) ⟨rfl, ?_⟩
            exact (if_pos (c := p_Tape_isMark v0) (Or.inr (Or.inr (Or.inr (Or.inr (Or.inl c14)))))).symm
          · have hz : True := trivial
            refine gh_iload_n gd_Tape_isMark_30 0 rfl ?_
            refine gh_bipush gd_Tape_isMark_31 (by decide) (gh_r0 rfl) ?_
            refine gh_jeq (tgt := 48) gd_Tape_isMark_33 (by decide) (fun c15 => ?_) (fun c15 => ?_)
            · have hz : True := trivial
              refine gh_iconst gd_Tape_isMark_48 (gh_r0 rfl) ?_
              refine gh_goto (tgt := 53) gd_Tape_isMark_49 (by decide) ?_
              refine gh_ret8 rfl gd_Tape_isMark_53 (by decide) ⟨rfl, ?_⟩
              exact (if_pos (c := p_Tape_isMark v0) (Or.inr (Or.inr (Or.inr (Or.inr (Or.inr (Or.inl c15))))))).symm
            · have hz : True := trivial
              refine gh_iload_n gd_Tape_isMark_36 0 rfl ?_
              refine gh_bipush gd_Tape_isMark_37 (by decide) (gh_r0 rfl) ?_
              refine gh_jeq (tgt := 48) gd_Tape_isMark_39 (by decide) (fun c16 => ?_) (fun c16 => ?_)
              · have hz : True := trivial
                refine gh_iconst gd_Tape_isMark_48 (gh_r0 rfl) ?_
                refine gh_goto (tgt := 53) gd_Tape_isMark_49 (by decide) ?_
                refine gh_ret8 rfl gd_Tape_isMark_53 (by decide) ⟨rfl, ?_⟩
                exact (if_pos (c := p_Tape_isMark v0) (Or.inr (Or.inr (Or.inr (Or.inr (Or.inr (Or.inr (Or.inl c16)))))))).symm
              · have hz : True := trivial
                refine gh_iload_n gd_Tape_isMark_42 0 rfl ?_
                refine gh_bipush gd_Tape_isMark_43 (by decide) (gh_r0 rfl) ?_
                refine gh_jne (tgt := 52) gd_Tape_isMark_45 (by decide) (fun c17 => ?_) (fun c17 => ?_)
                · have hz : True := trivial
                  refine gh_iconst gd_Tape_isMark_48 (gh_r0 rfl) ?_
                  refine gh_goto (tgt := 53) gd_Tape_isMark_49 (by decide) ?_
                  refine gh_ret8 rfl gd_Tape_isMark_53 (by decide) ⟨rfl, ?_⟩
                  exact (if_pos (c := p_Tape_isMark v0) (Or.inr (Or.inr (Or.inr (Or.inr (Or.inr (Or.inr (Or.inr c17)))))))).symm
                · have hz : True := trivial
                  refine gh_iconst gd_Tape_isMark_52 (gh_r0 rfl) ?_
                  refine gh_ret8 rfl gd_Tape_isMark_53 (by decide) ⟨rfl, ?_⟩
                  exact (if_neg (c := p_Tape_isMark v0) (fun z => z.elim c10 (fun z => z.elim c11 (fun z => z.elim c12 (fun z => z.elim c13 (fun z => z.elim c14 (fun z => z.elim c15 (fun z => z.elim c16 c17)))))))).symm
def x_Draft_allNames (m : gh_M) : Int := ((m 6 1) + (m 6 2))
def k_Draft_allNames (m : gh_M) : Prop := gh_i ((m 6 1) + (m 6 2))
theorem e_Draft_allNames {E : gh_E} {m : gh_M} (d : Nat) (hF : gh_F m) (hk : k_Draft_allNames m) : gh_C E gh_yDraft_allNames prog_3_method_3_code 1 (some .int) 0 (d + 0) [(2, 6)] m (fun r m1 => m1 = m ∧ r = x_Draft_allNames m) := by
  refine gh_enter2 (L := [(0, 2, 6)]) (by decide +kernel) gh_rt0 (Nat.le_of_ble_eq_true rfl) rfl rfl ?_
  unfold k_Draft_allNames at hk
  refine gh_aload_n gd_Draft_allNames_0 0 rfl (by decide) ?_
  refine gf_6_1 gd_Draft_allNames_1 gh_k118 hF rfl ?_
  refine gh_aload_n gd_Draft_allNames_4 0 rfl (by decide) ?_
  refine gf_6_2 gd_Draft_allNames_5 gh_k120 hF rfl ?_
  have q18 := hk
  refine gh_iadd gd_Draft_allNames_8 q18 ?_
  refine gh_ret0 rfl gd_Draft_allNames_9 ⟨rfl, ?_⟩
  rfl
def x_Tape_width (m : gh_M) : Int := (if (m 3 2) = 2 then (((m 3 4) - (m 3 3)) - 2) else 1)
def k_Tape_width (m : gh_M) : Prop := (((m 3 2) = 2) → (gh_i ((m 3 4) - (m 3 3)) ∧ gh_i (((m 3 4) - (m 3 3)) - 2)))
theorem e_Tape_width {E : gh_E} {m : gh_M} (d : Nat) (hF : gh_F m) (hk : k_Tape_width m) : gh_C E gh_yTape_width prog_10_method_15_code 1 (some .int) 0 (d + 0) [(2, 3)] m (fun r m1 => m1 = m ∧ r = x_Tape_width m) := by
  refine gh_enter2 (L := [(0, 2, 3)]) (by decide +kernel) gh_rt0 (Nat.le_of_ble_eq_true rfl) rfl rfl ?_
  unfold k_Tape_width at hk
  refine gh_aload_n gd_Tape_width_0 0 rfl (by decide) ?_
  refine gf_3_2 gd_Tape_width_1 gh_k89 hF rfl ?_
  refine gh_iconst gd_Tape_width_4 (gh_r0 rfl) ?_
  refine gh_jne (tgt := 22) gd_Tape_width_5 (by decide) (fun c21 => ?_) (fun c21 => ?_)
  · have hz : True := trivial
    have hk := hk c21
    refine gh_aload_n gd_Tape_width_8 0 rfl (by decide) ?_
    refine gf_3_4 gd_Tape_width_9 gh_k92 hF rfl ?_
    refine gh_aload_n gd_Tape_width_12 0 rfl (by decide) ?_
    refine gf_3_3 gd_Tape_width_13 gh_k91 hF rfl ?_
    obtain ⟨q19, hk⟩ := hk
    refine gh_isub gd_Tape_width_16 q19 ?_
    refine gh_iconst gd_Tape_width_17 (gh_r0 rfl) ?_
    have q20 := hk
    refine gh_isub gd_Tape_width_18 q20 ?_
    refine gh_goto (tgt := 23) gd_Tape_width_19 (by decide) ?_
    refine gh_ret0 rfl gd_Tape_width_23 ⟨rfl, ?_⟩
    unfold x_Tape_width
    rw [if_pos c21]
  · have hz : True := trivial
    refine gh_iconst gd_Tape_width_22 (gh_r0 rfl) ?_
    refine gh_ret0 rfl gd_Tape_width_23 ⟨rfl, ?_⟩
    unfold x_Tape_width
    rw [if_neg c21]
def x_Tape_setOfQuote (v1 : Int) (m : gh_M) : Int := (gh_ishl_f 1 ((x_Tape_signAt (((m 3 3) + 1) + v1) m) - 97))
def k_Tape_setOfQuote (v1 : Int) (m : gh_M) : Prop := gh_i ((m 3 3) + 1) ∧ gh_i (((m 3 3) + 1) + v1) ∧ k_Tape_signAt (((m 3 3) + 1) + v1) m ∧ gh_i ((x_Tape_signAt (((m 3 3) + 1) + v1) m) - 97)
theorem e_Tape_setOfQuote {E : gh_E} {m : gh_M} (d : Nat) (v1 : Int) (hF : gh_F m) (hk : k_Tape_setOfQuote v1 m) : gh_C E gh_yTape_setOfQuote prog_10_method_16_code 2 (some .int) 0 (d + 1) [(2, 3), (0, v1)] m (fun r m1 => m1 = m ∧ r = x_Tape_setOfQuote v1 m) := by
  refine gh_enter2 (L := [(0, 2, 3), (1, 0, v1)]) (by decide +kernel) gh_rt0 (Nat.le_of_ble_eq_true rfl) rfl rfl ?_
  unfold k_Tape_setOfQuote at hk
  refine gh_iconst gd_Tape_setOfQuote_0 (gh_r0 rfl) ?_
  refine gh_aload_n gd_Tape_setOfQuote_1 0 rfl (by decide) ?_
  refine gh_aload_n gd_Tape_setOfQuote_2 0 rfl (by decide) ?_
  refine gf_3_3 gd_Tape_setOfQuote_3 gh_k91 hF rfl ?_
  refine gh_iconst gd_Tape_setOfQuote_6 (gh_r0 rfl) ?_
  obtain ⟨q22, hk⟩ := hk
  refine gh_iadd gd_Tape_setOfQuote_7 q22 ?_
  refine gh_iload_n gd_Tape_setOfQuote_8 1 rfl ?_
  obtain ⟨q23, hk⟩ := hk
  refine gh_iadd gd_Tape_setOfQuote_9 q23 ?_
  obtain ⟨q24, hk⟩ := hk
  refine cv_Tape_signAt (d := d) gd_Tape_setOfQuote_10 gh_k594 hF (Nat.le_of_ble_eq_true rfl) (gh_C.pe (e_Tape_signAt d (((m 3 3) + 1) + v1) hF q24) ?_)
  refine gh_bipush gd_Tape_setOfQuote_13 (by decide) (gh_r0 rfl) ?_
  have q25 := hk
  refine gh_isub gd_Tape_setOfQuote_15 q25 ?_
  refine gh_ishl gd_Tape_setOfQuote_16 ?_
  refine gh_ret0 rfl gd_Tape_setOfQuote_17 ⟨rfl, ?_⟩
  rfl
def x_Grammar_partAt (v1 : Int) (v2 : Int) (m : gh_M) : Int := (if v1 < 0 then 0 else (if v1 < (m 13 2) then (if v2 < 0 then 0 else (if v2 < (m 17 v1) then (m 19 ((v1 * 4) + v2)) else 0)) else 0))
def k_Grammar_partAt (v1 : Int) (v2 : Int) (m : gh_M) : Prop := (¬ (v1 < 0) → (((v1 < (m 13 2)) → ((¬ (v2 < 0) → (0 ≤ v1 ∧ v1 < 20 ∧ ((v2 < (m 17 v1)) → (gh_i (v1 * 4) ∧ gh_i ((v1 * 4) + v2) ∧ 0 ≤ (v1 * 4) + v2 ∧ ((v1 * 4) + v2) < 80))))))))
theorem e_Grammar_partAt {E : gh_E} {m : gh_M} (d : Nat) (v1 : Int) (v2 : Int) (hF : gh_F m) (hk : k_Grammar_partAt v1 v2 m) : gh_C E gh_yGrammar_partAt prog_6_method_6_code 3 (some .int) 0 (d + 0) [(2, 13), (0, v1), (0, v2)] m (fun r m1 => m1 = m ∧ r = x_Grammar_partAt v1 v2 m) := by
  refine gh_enter2 (L := [(0, 2, 13), (1, 0, v1), (2, 0, v2)]) (by decide +kernel) gh_rt0 (Nat.le_of_ble_eq_true rfl) rfl rfl ?_
  unfold k_Grammar_partAt at hk
  refine gh_iload_n gd_Grammar_partAt_0 1 rfl ?_
  refine gh_zlt (tgt := 39) gd_Grammar_partAt_1 (by decide) (fun c32 => ?_) (fun c32 => ?_)
  · have hz : True := trivial
    refine gh_iconst gd_Grammar_partAt_39 (gh_r0 rfl) ?_
    refine gh_ret0 rfl gd_Grammar_partAt_40 ⟨rfl, ?_⟩
    unfold x_Grammar_partAt
    rw [if_pos c32]
  · have hz : True := trivial
    have hk := hk c32
    refine gh_iload_n gd_Grammar_partAt_4 1 rfl ?_
    refine gh_aload_n gd_Grammar_partAt_5 0 rfl (by decide) ?_
    refine gf_13_2 gd_Grammar_partAt_6 gh_k186 hF rfl ?_
    refine gh_jge (tgt := 39) gd_Grammar_partAt_9 (by decide) (fun c33 => ?_) (fun c33 => ?_)
    · have hz : True := trivial
      have hk := hk c33
      refine gh_iload_n gd_Grammar_partAt_12 2 rfl ?_
      refine gh_zlt (tgt := 39) gd_Grammar_partAt_13 (by decide) (fun c34 => ?_) (fun c34 => ?_)
      · have hz : True := trivial
        refine gh_iconst gd_Grammar_partAt_39 (gh_r0 rfl) ?_
        refine gh_ret0 rfl gd_Grammar_partAt_40 ⟨rfl, ?_⟩
        unfold x_Grammar_partAt
        rw [if_neg c32, if_pos c33, if_pos c34]
      · have hz : True := trivial
        have hk := hk c34
        refine gh_iload_n gd_Grammar_partAt_16 2 rfl ?_
        refine gh_aload_n gd_Grammar_partAt_17 0 rfl (by decide) ?_
        refine gf_13_6 gd_Grammar_partAt_18 gh_k204 hF ?_
        refine gh_iload_n gd_Grammar_partAt_21 1 rfl ?_
        obtain ⟨q26, hk⟩ := hk
        obtain ⟨q27, hk⟩ := hk
        refine la_17 gd_Grammar_partAt_22 hF q26 q27 rfl ?_
        refine gh_jge (tgt := 39) gd_Grammar_partAt_23 (by decide) (fun c35 => ?_) (fun c35 => ?_)
        · have hz : True := trivial
          have hk := hk c35
          refine gh_aload_n gd_Grammar_partAt_26 0 rfl (by decide) ?_
          refine gf_13_8 gd_Grammar_partAt_27 gh_k213 hF ?_
          refine gh_iload_n gd_Grammar_partAt_30 1 rfl ?_
          refine gh_iconst gd_Grammar_partAt_31 (gh_r0 rfl) ?_
          obtain ⟨q28, hk⟩ := hk
          refine gh_imul gd_Grammar_partAt_32 q28 ?_
          refine gh_iload_n gd_Grammar_partAt_33 2 rfl ?_
          obtain ⟨q29, hk⟩ := hk
          refine gh_iadd gd_Grammar_partAt_34 q29 ?_
          obtain ⟨q30, hk⟩ := hk
          have q31 := hk
          refine la_19 gd_Grammar_partAt_35 hF q30 q31 rfl ?_
          refine gh_goto (tgt := 40) gd_Grammar_partAt_36 (by decide) ?_
          refine gh_ret0 rfl gd_Grammar_partAt_40 ⟨rfl, ?_⟩
          unfold x_Grammar_partAt
          rw [if_neg c32, if_pos c33, if_neg c34, if_pos c35]
        · have hz : True := trivial
          refine gh_iconst gd_Grammar_partAt_39 (gh_r0 rfl) ?_
          refine gh_ret0 rfl gd_Grammar_partAt_40 ⟨rfl, ?_⟩
          unfold x_Grammar_partAt
          rw [if_neg c32, if_pos c33, if_neg c34, if_neg c35]
    · have hz : True := trivial
      refine gh_iconst gd_Grammar_partAt_39 (gh_r0 rfl) ?_
      refine gh_ret0 rfl gd_Grammar_partAt_40 ⟨rfl, ?_⟩
      unfold x_Grammar_partAt
      rw [if_neg c32, if_neg c33]
def x_Grammar_nameOf (v1 : Int) (m : gh_M) : Int := (if v1 < 0 then (if v1 < (-(m 13 1)) then (-1) else ((-1) - v1)) else (-1))
def k_Grammar_nameOf (v1 : Int) (m : gh_M) : Prop := ((v1 < 0) → (gh_i (-(m 13 1)) ∧ (¬ (v1 < (-(m 13 1))) → (gh_i ((-1) - v1)))))
theorem e_Grammar_nameOf {E : gh_E} {m : gh_M} (d : Nat) (v1 : Int) (hF : gh_F m) (hk : k_Grammar_nameOf v1 m) : gh_C E gh_yGrammar_nameOf prog_6_method_7_code 2 (some .int) 0 (d + 0) [(2, 13), (0, v1)] m (fun r m1 => m1 = m ∧ r = x_Grammar_nameOf v1 m) := by
  refine gh_enter2 (L := [(0, 2, 13), (1, 0, v1)]) (by decide +kernel) gh_rt0 (Nat.le_of_ble_eq_true rfl) rfl rfl ?_
  unfold k_Grammar_nameOf at hk
  refine gh_iload_n gd_Grammar_nameOf_0 1 rfl ?_
  refine gh_zge (tgt := 19) gd_Grammar_nameOf_1 (by decide) (fun c38 => ?_) (fun c38 => ?_)
  · have hz : True := trivial
    have hk := hk c38
    refine gh_iload_n gd_Grammar_nameOf_4 1 rfl ?_
    refine gh_aload_n gd_Grammar_nameOf_5 0 rfl (by decide) ?_
    refine gf_13_1 gd_Grammar_nameOf_6 gh_k181 hF rfl ?_
    obtain ⟨q36, hk⟩ := hk
    refine gh_ineg gd_Grammar_nameOf_9 q36 ?_
    refine gh_jlt (tgt := 19) gd_Grammar_nameOf_10 (by decide) (fun c39 => ?_) (fun c39 => ?_)
    · have hz : True := trivial
      refine gh_iconst gd_Grammar_nameOf_19 (gh_r0 rfl) ?_
      refine gh_ret0 rfl gd_Grammar_nameOf_20 ⟨rfl, ?_⟩
      unfold x_Grammar_nameOf
      rw [if_pos c38, if_pos c39]
    · have hz : True := trivial
      have hk := hk c39
      refine gh_iconst gd_Grammar_nameOf_13 (gh_r0 rfl) ?_
      refine gh_iload_n gd_Grammar_nameOf_14 1 rfl ?_
      have q37 := hk
      refine gh_isub gd_Grammar_nameOf_15 q37 ?_
      refine gh_goto (tgt := 20) gd_Grammar_nameOf_16 (by decide) ?_
      refine gh_ret0 rfl gd_Grammar_nameOf_20 ⟨rfl, ?_⟩
      unfold x_Grammar_nameOf
      rw [if_pos c38, if_neg c39]
  · have hz : True := trivial
    refine gh_iconst gd_Grammar_nameOf_19 (gh_r0 rfl) ?_
    refine gh_ret0 rfl gd_Grammar_nameOf_20 ⟨rfl, ?_⟩
    unfold x_Grammar_nameOf
    rw [if_neg c38]
def x_Grammar_nameAt (v1 : Int) (v2 : Int) (m : gh_M) : Int := (x_Grammar_nameOf (x_Grammar_partAt v1 v2 m) m)
def k_Grammar_nameAt (v1 : Int) (v2 : Int) (m : gh_M) : Prop := k_Grammar_partAt v1 v2 m ∧ k_Grammar_nameOf (x_Grammar_partAt v1 v2 m) m
theorem e_Grammar_nameAt {E : gh_E} {m : gh_M} (d : Nat) (v1 : Int) (v2 : Int) (hF : gh_F m) (hk : k_Grammar_nameAt v1 v2 m) : gh_C E gh_yGrammar_nameAt prog_6_method_8_code 3 (some .int) 0 (d + 1) [(2, 13), (0, v1), (0, v2)] m (fun r m1 => m1 = m ∧ r = x_Grammar_nameAt v1 v2 m) := by
  refine gh_enter2 (L := [(0, 2, 13), (1, 0, v1), (2, 0, v2)]) (by decide +kernel) gh_rt0 (Nat.le_of_ble_eq_true rfl) rfl rfl ?_
  unfold k_Grammar_nameAt at hk
  refine gh_aload_n gd_Grammar_nameAt_0 0 rfl (by decide) ?_
  refine gh_aload_n gd_Grammar_nameAt_1 0 rfl (by decide) ?_
  refine gh_iload_n gd_Grammar_nameAt_2 1 rfl ?_
  refine gh_iload_n gd_Grammar_nameAt_3 2 rfl ?_
  obtain ⟨q40, hk⟩ := hk
  refine cv_Grammar_partAt (d := d) gd_Grammar_nameAt_4 gh_k757 hF (Nat.le_of_ble_eq_true rfl) (gh_C.pe (e_Grammar_partAt d v1 v2 hF q40) ?_)
  have q41 := hk
  refine cv_Grammar_nameOf (d := d) gd_Grammar_nameAt_7 gh_k761 hF (Nat.le_of_ble_eq_true rfl) (gh_C.pe (e_Grammar_nameOf d (x_Grammar_partAt v1 v2 m) hF q41) ?_)
  refine gh_ret0 rfl gd_Grammar_nameAt_10 ⟨rfl, ?_⟩
  rfl
abbrev p_Facts_isUsefulRule (v1 : Int) (m : gh_M) : Prop := ¬ ((gh_iand_f (gh_ishr_f (m 20 5) v1) 1) = 0)
theorem e_Facts_isUsefulRule {E : gh_E} {m : gh_M} (d : Nat) (v1 : Int) (hF : gh_F m) : gh_C E gh_yFacts_isUsefulRule prog_4_method_3_code 2 (some .boolean) 8 (d + 0) [(2, 20), (0, v1)] m (fun r m1 => m1 = m ∧ r = (if p_Facts_isUsefulRule v1 m then (1:Int) else 0)) := by
  refine gh_enter2 (L := [(0, 2, 20), (1, 0, v1)]) (by decide +kernel) gh_rt8 (Nat.le_of_ble_eq_true rfl) rfl rfl ?_
  refine gh_aload_n gd_Facts_isUsefulRule_0 0 rfl (by decide) ?_
  refine gf_20_5 gd_Facts_isUsefulRule_1 gh_k250 hF rfl ?_
  refine gh_iload_n gd_Facts_isUsefulRule_4 1 rfl ?_
  refine gh_ishr gd_Facts_isUsefulRule_5 ?_
  refine gh_iconst gd_Facts_isUsefulRule_6 (gh_r0 rfl) ?_
  refine gh_iand gd_Facts_isUsefulRule_7 ?_
  refine gh_zeq (tgt := 15) gd_Facts_isUsefulRule_8 (by decide) (fun c42 => ?_) (fun c42 => ?_)
  · have hz : True := trivial
    refine gh_iconst gd_Facts_isUsefulRule_15 (gh_r0 rfl) ?_
    refine gh_ret8 rfl gd_Facts_isUsefulRule_16 (by decide) ⟨rfl, ?_⟩
    exact (if_neg (c := p_Facts_isUsefulRule v1 m) (not_not_intro c42)).symm
  · have hz : True := trivial
    refine gh_iconst gd_Facts_isUsefulRule_11 (gh_r0 rfl) ?_
    refine gh_goto (tgt := 16) gd_Facts_isUsefulRule_12 (by decide) ?_
    refine gh_ret8 rfl gd_Facts_isUsefulRule_16 (by decide) ⟨rfl, ?_⟩
    exact (if_pos (c := p_Facts_isUsefulRule v1 m) c42).symm
def x_Grammar_behindRules (v1 : Int) (m : gh_M) : Int := ((m 14 v1) + (m 15 v1))
def k_Grammar_behindRules (v1 : Int) (m : gh_M) : Prop := 0 ≤ v1 ∧ v1 < 8 ∧ 0 ≤ v1 ∧ v1 < 8 ∧ gh_i ((m 14 v1) + (m 15 v1))
theorem e_Grammar_behindRules {E : gh_E} {m : gh_M} (d : Nat) (v1 : Int) (hF : gh_F m) (hk : k_Grammar_behindRules v1 m) : gh_C E gh_yGrammar_behindRules prog_6_method_9_code 2 (some .int) 0 (d + 0) [(2, 13), (0, v1)] m (fun r m1 => m1 = m ∧ r = x_Grammar_behindRules v1 m) := by
  refine gh_enter2 (L := [(0, 2, 13), (1, 0, v1)]) (by decide +kernel) gh_rt0 (Nat.le_of_ble_eq_true rfl) rfl rfl ?_
  unfold k_Grammar_behindRules at hk
  refine gh_aload_n gd_Grammar_behindRules_0 0 rfl (by decide) ?_
  refine gf_13_3 gd_Grammar_behindRules_1 gh_k191 hF ?_
  refine gh_iload_n gd_Grammar_behindRules_4 1 rfl ?_
  obtain ⟨q43, hk⟩ := hk
  obtain ⟨q44, hk⟩ := hk
  refine la_14 gd_Grammar_behindRules_5 hF q43 q44 rfl ?_
  refine gh_aload_n gd_Grammar_behindRules_6 0 rfl (by decide) ?_
  refine gf_13_4 gd_Grammar_behindRules_7 gh_k197 hF ?_
  refine gh_iload_n gd_Grammar_behindRules_10 1 rfl ?_
  obtain ⟨q45, hk⟩ := hk
  obtain ⟨q46, hk⟩ := hk
  refine la_15 gd_Grammar_behindRules_11 hF q45 q46 rfl ?_
  have q47 := hk
  refine gh_iadd gd_Grammar_behindRules_12 q47 ?_
  refine gh_ret0 rfl gd_Grammar_behindRules_13 ⟨rfl, ?_⟩
  rfl
abbrev p_House_isPlace (v1 : Int) (m : gh_M) : Prop := ¬ (v1 < 0) ∧ (v1 ≤ (m 26 3))
theorem e_House_isPlace {E : gh_E} {m : gh_M} (d : Nat) (v1 : Int) (hF : gh_F m) : gh_C E gh_yHouse_isPlace prog_1_method_36_code 2 (some .boolean) 8 (d + 0) [(2, 2), (0, v1)] m (fun r m1 => m1 = m ∧ r = (if p_House_isPlace v1 m then (1:Int) else 0)) := by
  refine gh_enter2 (L := [(0, 2, 2), (1, 0, v1)]) (by decide +kernel) gh_rt8 (Nat.le_of_ble_eq_true rfl) rfl rfl ?_
  refine gh_iload_n gd_House_isPlace_0 1 rfl ?_
  refine gh_zlt (tgt := 19) gd_House_isPlace_1 (by decide) (fun c48 => ?_) (fun c48 => ?_)
  · have hz : True := trivial
    refine gh_iconst gd_House_isPlace_19 (gh_r0 rfl) ?_
    refine gh_ret8 rfl gd_House_isPlace_20 (by decide) ⟨rfl, ?_⟩
    exact (if_neg (c := p_House_isPlace v1 m) (fun z => z.1 c48)).symm
  · have hz : True := trivial
    refine gh_iload_n gd_House_isPlace_4 1 rfl ?_
    refine gh_aload_n gd_House_isPlace_5 0 rfl (by decide) ?_
    refine gf_2_4 gd_House_isPlace_6 gh_k544 hF ?_
    refine gf_26_3 gd_House_isPlace_9 gh_k297 hF rfl ?_
    refine gh_jgt (tgt := 19) gd_House_isPlace_12 (by decide) (fun c49 => ?_) (fun c49 => ?_)
    · have hz : True := trivial
      refine gh_iconst gd_House_isPlace_15 (gh_r0 rfl) ?_
      refine gh_goto (tgt := 20) gd_House_isPlace_16 (by decide) ?_
      refine gh_ret8 rfl gd_House_isPlace_20 (by decide) ⟨rfl, ?_⟩
      exact (if_pos (c := p_House_isPlace v1 m) ⟨c48, c49⟩).symm
    · have hz : True := trivial
      refine gh_iconst gd_House_isPlace_19 (gh_r0 rfl) ?_
      refine gh_ret8 rfl gd_House_isPlace_20 (by decide) ⟨rfl, ?_⟩
      exact (if_neg (c := p_House_isPlace v1 m) (fun z => c49 z.2)).symm
abbrev p_Text_fits (v1 : Int) (v2 : Int) (m : gh_M) : Prop := ¬ (v2 < 0) ∧ ((v2 < (m 26 3)) ∧ (¬ ((gh_iand_f (gh_ishr_f v1 (m 27 v2)) 1) = 0)))
def k_Text_fits (v1 : Int) (v2 : Int) (m : gh_M) : Prop := (¬ (v2 < 0) → (((v2 < (m 26 3)) → (0 ≤ v2 ∧ v2 < 8))))
theorem e_Text_fits {E : gh_E} {m : gh_M} (d : Nat) (v1 : Int) (v2 : Int) (hF : gh_F m) (hk : k_Text_fits v1 v2 m) : gh_C E gh_yText_fits prog_11_method_2_code 3 (some .boolean) 8 (d + 0) [(2, 26), (0, v1), (0, v2)] m (fun r m1 => m1 = m ∧ r = (if p_Text_fits v1 v2 m then (1:Int) else 0)) := by
  refine gh_enter2 (L := [(0, 2, 26), (1, 0, v1), (2, 0, v2)]) (by decide +kernel) gh_rt8 (Nat.le_of_ble_eq_true rfl) rfl rfl ?_
  unfold k_Text_fits at hk
  refine gh_iload_n gd_Text_fits_0 2 rfl ?_
  refine gh_zlt (tgt := 29) gd_Text_fits_1 (by decide) (fun c52 => ?_) (fun c52 => ?_)
  · have hz : True := trivial
    refine gh_iconst gd_Text_fits_29 (gh_r0 rfl) ?_
    refine gh_ret8 rfl gd_Text_fits_30 (by decide) ⟨rfl, ?_⟩
    exact (if_neg (c := p_Text_fits v1 v2 m) (fun z => z.1 c52)).symm
  · have hz : True := trivial
    have hk := hk c52
    refine gh_iload_n gd_Text_fits_4 2 rfl ?_
    refine gh_aload_n gd_Text_fits_5 0 rfl (by decide) ?_
    refine gf_26_3 gd_Text_fits_6 gh_k294 hF rfl ?_
    refine gh_jge (tgt := 29) gd_Text_fits_9 (by decide) (fun c53 => ?_) (fun c53 => ?_)
    · have hz : True := trivial
      have hk := hk c53
      refine gh_iload_n gd_Text_fits_12 1 rfl ?_
      refine gh_aload_n gd_Text_fits_13 0 rfl (by decide) ?_
      refine gf_26_2 gd_Text_fits_14 gh_k292 hF ?_
      refine gh_iload_n gd_Text_fits_17 2 rfl ?_
      obtain ⟨q50, hk⟩ := hk
      have q51 := hk
      refine la_27 gd_Text_fits_18 hF q50 q51 rfl ?_
      refine gh_ishr gd_Text_fits_19 ?_
      refine gh_iconst gd_Text_fits_20 (gh_r0 rfl) ?_
      refine gh_iand gd_Text_fits_21 ?_
      refine gh_zeq (tgt := 29) gd_Text_fits_22 (by decide) (fun c54 => ?_) (fun c54 => ?_)
      · have hz : True := trivial
        refine gh_iconst gd_Text_fits_29 (gh_r0 rfl) ?_
        refine gh_ret8 rfl gd_Text_fits_30 (by decide) ⟨rfl, ?_⟩
        exact (if_neg (c := p_Text_fits v1 v2 m) (fun z => (fun z => (not_not_intro c54) z.2) z.2)).symm
      · have hz : True := trivial
        refine gh_iconst gd_Text_fits_25 (gh_r0 rfl) ?_
        refine gh_goto (tgt := 30) gd_Text_fits_26 (by decide) ?_
        refine gh_ret8 rfl gd_Text_fits_30 (by decide) ⟨rfl, ?_⟩
        exact (if_pos (c := p_Text_fits v1 v2 m) ⟨c52, ⟨c53, c54⟩⟩).symm
    · have hz : True := trivial
      refine gh_iconst gd_Text_fits_29 (gh_r0 rfl) ?_
      refine gh_ret8 rfl gd_Text_fits_30 (by decide) ⟨rfl, ?_⟩
      exact (if_neg (c := p_Text_fits v1 v2 m) (fun z => (fun z => c53 z.1) z.2)).symm
abbrev p_Chart_covers (v1 : Int) (v2 : Int) (v3 : Int) (m : gh_M) : Prop := ¬ ((gh_iand_f (gh_ishr_f (m 31 ((v1 * 9) + v2)) v3) 1) = 0)
def k_Chart_covers (v1 : Int) (v2 : Int) (v3 : Int) : Prop := gh_i (v1 * 9) ∧ gh_i ((v1 * 9) + v2) ∧ 0 ≤ (v1 * 9) + v2 ∧ ((v1 * 9) + v2) < 72
theorem e_Chart_covers {E : gh_E} {m : gh_M} (d : Nat) (v1 : Int) (v2 : Int) (v3 : Int) (hF : gh_F m) (hk : k_Chart_covers v1 v2 v3) : gh_C E gh_yChart_covers prog_2_method_2_code 4 (some .boolean) 8 (d + 0) [(2, 30), (0, v1), (0, v2), (0, v3)] m (fun r m1 => m1 = m ∧ r = (if p_Chart_covers v1 v2 v3 m then (1:Int) else 0)) := by
  refine gh_enter2 (L := [(0, 2, 30), (1, 0, v1), (2, 0, v2), (3, 0, v3)]) (by decide +kernel) gh_rt8 (Nat.le_of_ble_eq_true rfl) rfl rfl ?_
  unfold k_Chart_covers at hk
  refine gh_aload_n gd_Chart_covers_0 0 rfl (by decide) ?_
  refine gf_30_4 gd_Chart_covers_1 gh_k334 hF ?_
  refine gh_iload_n gd_Chart_covers_4 1 rfl ?_
  refine gh_bipush gd_Chart_covers_5 (by decide) (gh_r0 rfl) ?_
  obtain ⟨q55, hk⟩ := hk
  refine gh_imul gd_Chart_covers_7 q55 ?_
  refine gh_iload_n gd_Chart_covers_8 2 rfl ?_
  obtain ⟨q56, hk⟩ := hk
  refine gh_iadd gd_Chart_covers_9 q56 ?_
  obtain ⟨q57, hk⟩ := hk
  have q58 := hk
  refine la_31 gd_Chart_covers_10 hF q57 q58 rfl ?_
  refine gh_iload_n gd_Chart_covers_11 3 rfl ?_
  refine gh_ishr gd_Chart_covers_12 ?_
  refine gh_iconst gd_Chart_covers_13 (gh_r0 rfl) ?_
  refine gh_iand gd_Chart_covers_14 ?_
  refine gh_zeq (tgt := 22) gd_Chart_covers_15 (by decide) (fun c59 => ?_) (fun c59 => ?_)
  · have hz : True := trivial
    refine gh_iconst gd_Chart_covers_22 (gh_r0 rfl) ?_
    refine gh_ret8 rfl gd_Chart_covers_23 (by decide) ⟨rfl, ?_⟩
    exact (if_neg (c := p_Chart_covers v1 v2 v3 m) (not_not_intro c59)).symm
  · have hz : True := trivial
    refine gh_iconst gd_Chart_covers_18 (gh_r0 rfl) ?_
    refine gh_goto (tgt := 23) gd_Chart_covers_19 (by decide) ?_
    refine gh_ret8 rfl gd_Chart_covers_23 (by decide) ⟨rfl, ?_⟩
    exact (if_pos (c := p_Chart_covers v1 v2 v3 m) c59).symm
def x_House_letter (v1 : Int) (m : gh_M) : Int := (if (m 2 10) = 0 then (-1003) else (if v1 < 0 then (-1001) else (if v1 < (m 26 3) then (m 27 v1) else (-1001))))
def k_House_letter (v1 : Int) (m : gh_M) : Prop := (¬ ((m 2 10) = 0) → ((¬ (v1 < 0) → (((v1 < (m 26 3)) → (0 ≤ v1 ∧ v1 < 8))))))
theorem e_House_letter {E : gh_E} {m : gh_M} (d : Nat) (v1 : Int) (hF : gh_F m) (hk : k_House_letter v1 m) : gh_C E gh_yHouse_letter prog_1_method_18_code 2 (some .int) 0 (d + 0) [(2, 2), (0, v1)] m (fun r m1 => m1 = m ∧ r = x_House_letter v1 m) := by
  refine gh_enter2 (L := [(0, 2, 2), (1, 0, v1)]) (by decide +kernel) gh_rt0 (Nat.le_of_ble_eq_true rfl) rfl rfl ?_
  unfold k_House_letter at hk
  refine gh_aload_n gd_House_letter_0 0 rfl (by decide) ?_
  refine gf_2_10 gd_House_letter_1 gh_k550 hF rfl ?_
  refine gh_zne (tgt := 11) gd_House_letter_4 (by decide) (fun c62 => ?_) (fun c62 => ?_)
  · have hz : True := trivial
    refine gh_sipush gd_House_letter_7 (by decide) (gh_r0 rfl) ?_
    refine gh_ret0 rfl gd_House_letter_10 ⟨rfl, ?_⟩
    unfold x_House_letter
    rw [if_pos c62]
  · have hz : True := trivial
    have hk := hk c62
    refine gh_iload_n gd_House_letter_11 1 rfl ?_
    refine gh_zlt (tgt := 26) gd_House_letter_12 (by decide) (fun c63 => ?_) (fun c63 => ?_)
    · have hz : True := trivial
      refine gh_sipush gd_House_letter_26 (by decide) (gh_r0 rfl) ?_
      refine gh_goto (tgt := 41) gd_House_letter_29 (by decide) ?_
      refine gh_ret0 rfl gd_House_letter_41 ⟨rfl, ?_⟩
      unfold x_House_letter
      rw [if_neg c62, if_pos c63]
    · have hz : True := trivial
      have hk := hk c63
      refine gh_iload_n gd_House_letter_15 1 rfl ?_
      refine gh_aload_n gd_House_letter_16 0 rfl (by decide) ?_
      refine gf_2_4 gd_House_letter_17 gh_k544 hF ?_
      refine gf_26_3 gd_House_letter_20 gh_k297 hF rfl ?_
      refine gh_jlt (tgt := 32) gd_House_letter_23 (by decide) (fun c64 => ?_) (fun c64 => ?_)
      · have hz : True := trivial
        have hk := hk c64
        refine gh_aload_n gd_House_letter_32 0 rfl (by decide) ?_
        refine gf_2_4 gd_House_letter_33 gh_k544 hF ?_
        refine gf_26_2 gd_House_letter_36 gh_k293 hF ?_
        refine gh_iload_n gd_House_letter_39 1 rfl ?_
        obtain ⟨q60, hk⟩ := hk
        have q61 := hk
        refine la_27 gd_House_letter_40 hF q60 q61 rfl ?_
        refine gh_ret0 rfl gd_House_letter_41 ⟨rfl, ?_⟩
        unfold x_House_letter
        rw [if_neg c62, if_neg c63, if_pos c64]
      · have hz : True := trivial
        refine gh_sipush gd_House_letter_26 (by decide) (gh_r0 rfl) ?_
        refine gh_goto (tgt := 41) gd_House_letter_29 (by decide) ?_
        refine gh_ret0 rfl gd_House_letter_41 ⟨rfl, ?_⟩
        unfold x_House_letter
        rw [if_neg c62, if_neg c63, if_neg c64]
abbrev p_House_isName (v1 : Int) (m : gh_M) : Prop := ¬ (v1 < 0) ∧ (v1 < (m 13 1))
theorem e_House_isName {E : gh_E} {m : gh_M} (d : Nat) (v1 : Int) (hF : gh_F m) : gh_C E gh_yHouse_isName prog_1_method_34_code 2 (some .boolean) 8 (d + 0) [(2, 2), (0, v1)] m (fun r m1 => m1 = m ∧ r = (if p_House_isName v1 m then (1:Int) else 0)) := by
  refine gh_enter2 (L := [(0, 2, 2), (1, 0, v1)]) (by decide +kernel) gh_rt8 (Nat.le_of_ble_eq_true rfl) rfl rfl ?_
  refine gh_iload_n gd_House_isName_0 1 rfl ?_
  refine gh_zlt (tgt := 19) gd_House_isName_1 (by decide) (fun c65 => ?_) (fun c65 => ?_)
  · have hz : True := trivial
    refine gh_iconst gd_House_isName_19 (gh_r0 rfl) ?_
    refine gh_ret8 rfl gd_House_isName_20 (by decide) ⟨rfl, ?_⟩
    exact (if_neg (c := p_House_isName v1 m) (fun z => z.1 c65)).symm
  · have hz : True := trivial
    refine gh_iload_n gd_House_isName_4 1 rfl ?_
    refine gh_aload_n gd_House_isName_5 0 rfl (by decide) ?_
    refine gf_2_2 gd_House_isName_6 gh_k542 hF ?_
    refine gf_13_1 gd_House_isName_9 gh_k185 hF rfl ?_
    refine gh_jge (tgt := 19) gd_House_isName_12 (by decide) (fun c66 => ?_) (fun c66 => ?_)
    · have hz : True := trivial
      refine gh_iconst gd_House_isName_15 (gh_r0 rfl) ?_
      refine gh_goto (tgt := 20) gd_House_isName_16 (by decide) ?_
      refine gh_ret8 rfl gd_House_isName_20 (by decide) ⟨rfl, ?_⟩
      exact (if_pos (c := p_House_isName v1 m) ⟨c65, c66⟩).symm
    · have hz : True := trivial
      refine gh_iconst gd_House_isName_19 (gh_r0 rfl) ?_
      refine gh_ret8 rfl gd_House_isName_20 (by decide) ⟨rfl, ?_⟩
      exact (if_neg (c := p_House_isName v1 m) (fun z => c66 z.2)).symm
theorem e_Forest_plainAt {E : gh_E} {m : gh_M} (d : Nat) (v0 : Int) (v1 : Int) (v2 : Int) (hk : gh_i (v0 * 9) ∧ gh_i ((v0 * 9) + v1) ∧ gh_i (((v0 * 9) + v1) * 9) ∧ gh_i ((((v0 * 9) + v1) * 9) + v2)) : gh_C E gh_yForest_plainAt prog_5_method_6_code 3 (some .int) 0 (d + 0) [(0, v0), (0, v1), (0, v2)] m (fun r m1 => m1 = m ∧ r = ((((v0 * 9) + v1) * 9) + v2)) := by
  refine gh_enter2 (L := [(0, 0, v0), (1, 0, v1), (2, 0, v2)]) (by decide +kernel) gh_rt0 (Nat.le_of_ble_eq_true rfl) rfl rfl ?_
  refine gh_iload_n gd_Forest_plainAt_0 0 rfl ?_
  refine gh_bipush gd_Forest_plainAt_1 (by decide) (gh_r0 rfl) ?_
  obtain ⟨q67, hk⟩ := hk
  refine gh_imul gd_Forest_plainAt_3 q67 ?_
  refine gh_iload_n gd_Forest_plainAt_4 1 rfl ?_
  obtain ⟨q68, hk⟩ := hk
  refine gh_iadd gd_Forest_plainAt_5 q68 ?_
  refine gh_bipush gd_Forest_plainAt_6 (by decide) (gh_r0 rfl) ?_
  obtain ⟨q69, hk⟩ := hk
  refine gh_imul gd_Forest_plainAt_8 q69 ?_
  refine gh_iload_n gd_Forest_plainAt_9 2 rfl ?_
  have q70 := hk
  refine gh_iadd gd_Forest_plainAt_10 q70 ?_
  refine gh_ret0 rfl gd_Forest_plainAt_11 ⟨rfl, ?_⟩
  rfl
theorem e_Forest_underAt {E : gh_E} {m : gh_M} (d : Nat) (v0 : Int) (v1 : Int) (v2 : Int) (v3 : Int) (hk : ((v1 = v2) → (gh_i (0 + v0) ∧ gh_i ((0 + v0) * 256) ∧ gh_i (((0 + v0) * 256) + v3))) ∧ (¬ (v1 = v2) → (gh_i (8 + v0) ∧ gh_i ((8 + v0) * 256) ∧ gh_i (((8 + v0) * 256) + v3)))) : gh_C E gh_yForest_underAt prog_5_method_10_code 4 (some .int) 0 (d + 0) [(0, v0), (0, v1), (0, v2), (0, v3)] m (fun r m1 => m1 = m ∧ r = (if v1 = v2 then (((0 + v0) * 256) + v3) else (((8 + v0) * 256) + v3))) := by
  refine gh_enter2 (L := [(0, 0, v0), (1, 0, v1), (2, 0, v2), (3, 0, v3)]) (by decide +kernel) gh_rt0 (Nat.le_of_ble_eq_true rfl) rfl rfl ?_
  refine gh_iload_n gd_Forest_underAt_0 1 rfl ?_
  refine gh_iload_n gd_Forest_underAt_1 2 rfl ?_
  refine gh_jne (tgt := 9) gd_Forest_underAt_2 (by decide) (fun c77 => ?_) (fun c77 => ?_)
  · have hz : True := trivial
    have hk := hk.1 c77
    refine gh_iconst gd_Forest_underAt_5 (gh_r0 rfl) ?_
    refine gh_goto (tgt := 11) gd_Forest_underAt_6 (by decide) ?_
    refine gh_iload_n gd_Forest_underAt_11 0 rfl ?_
    obtain ⟨q71, hk⟩ := hk
    refine gh_iadd gd_Forest_underAt_12 q71 ?_
    refine gh_sipush gd_Forest_underAt_13 (by decide) (gh_r0 rfl) ?_
    obtain ⟨q72, hk⟩ := hk
    refine gh_imul gd_Forest_underAt_16 q72 ?_
    refine gh_iload_n gd_Forest_underAt_17 3 rfl ?_
    have q73 := hk
    refine gh_iadd gd_Forest_underAt_18 q73 ?_
    refine gh_ret0 rfl gd_Forest_underAt_19 ⟨rfl, ?_⟩
    skip
    rw [if_pos c77]
  · have hz : True := trivial
    have hk := hk.2 c77
    refine gh_bipush gd_Forest_underAt_9 (by decide) (gh_r0 rfl) ?_
    refine gh_iload_n gd_Forest_underAt_11 0 rfl ?_
    obtain ⟨q74, hk⟩ := hk
    refine gh_iadd gd_Forest_underAt_12 q74 ?_
    refine gh_sipush gd_Forest_underAt_13 (by decide) (gh_r0 rfl) ?_
    obtain ⟨q75, hk⟩ := hk
    refine gh_imul gd_Forest_underAt_16 q75 ?_
    refine gh_iload_n gd_Forest_underAt_17 3 rfl ?_
    have q76 := hk
    refine gh_iadd gd_Forest_underAt_18 q76 ?_
    refine gh_ret0 rfl gd_Forest_underAt_19 ⟨rfl, ?_⟩
    skip
    rw [if_neg c77]
def x_Forest_times (v0 : Int) (v2 : Int) : Int := (if v0 = 0 then 0 else (if v2 = 0 then 0 else (if v0 ≤ (1000000000000000000 / v2) then (min (v0 * v2) 1000000000000000000) else 1000000000000000000)))
def k_Forest_times (v0 : Int) (v2 : Int) : Prop := (¬ (v0 = 0) → ((¬ (v2 = 0) → (0 < v2 ∧ ((v0 ≤ (1000000000000000000 / v2)) → (gh_j (v0 * v2)))))))
theorem e_Forest_times {E : gh_E} {m : gh_M} (d : Nat) (v0 : Int) (v2 : Int) (hk : k_Forest_times v0 v2) : gh_C E gh_yForest_times prog_5_method_15_code 4 (some .long) 1 (d + 1) [(1, v0), (1, v2)] m (fun r m1 => m1 = m ∧ r = x_Forest_times v0 v2) := by
  refine gh_enter2 (L := [(0, 1, v0), (2, 1, v2)]) (by decide +kernel) gh_rt1 (Nat.le_of_ble_eq_true rfl) rfl rfl ?_
  unfold k_Forest_times at hk
  refine gh_lload_n gd_Forest_times_0 0 rfl ?_
  refine gh_lconst (n := 0) gd_Forest_times_1 (by decide) (gh_r1 rfl) ?_
  refine gh_lcmp gd_Forest_times_2 ?_
  refine gh_ceq (tgt := 12) gd_Forest_times_3 (by decide) (fun c80 => ?_) (fun c80 => ?_)
  · have hz : True := trivial
    refine gh_lconst (n := 0) gd_Forest_times_12 (by decide) (gh_r1 rfl) ?_
    refine gh_ret1 rfl gd_Forest_times_13 ⟨rfl, ?_⟩
    unfold x_Forest_times
    rw [if_pos c80]
  · have hz : True := trivial
    have hk := hk c80
    refine gh_lload_n gd_Forest_times_6 1 rfl ?_
    refine gh_lconst (n := 0) gd_Forest_times_7 (by decide) (gh_r1 rfl) ?_
    refine gh_lcmp gd_Forest_times_8 ?_
    refine gh_cne (tgt := 14) gd_Forest_times_9 (by decide) (fun c81 => ?_) (fun c81 => ?_)
    · have hz : True := trivial
      refine gh_lconst (n := 0) gd_Forest_times_12 (by decide) (gh_r1 rfl) ?_
      refine gh_ret1 rfl gd_Forest_times_13 ⟨rfl, ?_⟩
      unfold x_Forest_times
      rw [if_neg c80, if_pos c81]
    · have hz : True := trivial
      have hk := hk c81
      refine gh_lload_n gd_Forest_times_14 0 rfl ?_
      refine gh_ldc2 (n := 1000000000000000000) gd_Forest_times_15 gh_k1068 (by decide) (gh_r1 rfl) ?_
      refine gh_lload_n gd_Forest_times_18 1 rfl ?_
      obtain ⟨q78, hk⟩ := hk
      refine gh_ldiv gd_Forest_times_19 (by decide) q78 ?_
      refine gh_lcmp gd_Forest_times_20 ?_
      refine gh_cle (tgt := 30) gd_Forest_times_21 (by decide) (fun c82 => ?_) (fun c82 => ?_)
      · have hz : True := trivial
        have hk := hk c82
        refine gh_lload_n gd_Forest_times_30 0 rfl ?_
        refine gh_lload_n gd_Forest_times_31 1 rfl ?_
        have q79 := hk
        refine gh_lmul gd_Forest_times_32 q79 ?_
        refine gh_ldc2 (n := 1000000000000000000) gd_Forest_times_33 gh_k1068 (by decide) (gh_r1 rfl) ?_
        refine gh_pr_minJ gd_Forest_times_36 gh_k1069 (Nat.le_of_ble_eq_true rfl) ?_
        refine gh_ret1 rfl gd_Forest_times_39 ⟨rfl, ?_⟩
        unfold x_Forest_times
        rw [if_neg c80, if_neg c81, if_pos c82]
      · have hz : True := trivial
        refine gh_ldc2 (n := 1000000000000000000) gd_Forest_times_24 gh_k1068 (by decide) (gh_r1 rfl) ?_
        refine gh_goto (tgt := 39) gd_Forest_times_27 (by decide) ?_
        refine gh_ret1 rfl gd_Forest_times_39 ⟨rfl, ?_⟩
        unfold x_Forest_times
        rw [if_neg c80, if_neg c81, if_neg c82]
def x_Forest_plus (v0 : Int) (v2 : Int) : Int := (min (v0 + v2) 1000000000000000000)
def k_Forest_plus (v0 : Int) (v2 : Int) : Prop := gh_j (v0 + v2)
theorem e_Forest_plus {E : gh_E} {m : gh_M} (d : Nat) (v0 : Int) (v2 : Int) (hk : k_Forest_plus v0 v2) : gh_C E gh_yForest_plus prog_5_method_14_code 4 (some .long) 1 (d + 1) [(1, v0), (1, v2)] m (fun r m1 => m1 = m ∧ r = x_Forest_plus v0 v2) := by
  refine gh_enter2 (L := [(0, 1, v0), (2, 1, v2)]) (by decide +kernel) gh_rt1 (Nat.le_of_ble_eq_true rfl) rfl rfl ?_
  unfold k_Forest_plus at hk
  refine gh_lload_n gd_Forest_plus_0 0 rfl ?_
  refine gh_lload_n gd_Forest_plus_1 1 rfl ?_
  have q83 := hk
  refine gh_ladd gd_Forest_plus_2 q83 ?_
  refine gh_ldc2 (n := 1000000000000000000) gd_Forest_plus_3 gh_k1068 (by decide) (gh_r1 rfl) ?_
  refine gh_pr_minJ gd_Forest_plus_6 gh_k1069 (Nat.le_of_ble_eq_true rfl) ?_
  refine gh_ret1 rfl gd_Forest_plus_9 ⟨rfl, ?_⟩
  rfl
theorem e_Wants_costAt {E : gh_E} {m : gh_M} (d : Nat) (v0 : Int) (v1 : Int) (v2 : Int) (hk : gh_i (v0 * 9) ∧ gh_i ((v0 * 9) + v1) ∧ gh_i (((v0 * 9) + v1) * 9) ∧ gh_i ((((v0 * 9) + v1) * 9) + v2)) : gh_C E gh_yWants_costAt prog_12_method_8_code 3 (some .int) 0 (d + 0) [(0, v0), (0, v1), (0, v2)] m (fun r m1 => m1 = m ∧ r = ((((v0 * 9) + v1) * 9) + v2)) := by
  refine gh_enter2 (L := [(0, 0, v0), (1, 0, v1), (2, 0, v2)]) (by decide +kernel) gh_rt0 (Nat.le_of_ble_eq_true rfl) rfl rfl ?_
  refine gh_iload_n gd_Wants_costAt_0 0 rfl ?_
  refine gh_bipush gd_Wants_costAt_1 (by decide) (gh_r0 rfl) ?_
  obtain ⟨q84, hk⟩ := hk
  refine gh_imul gd_Wants_costAt_3 q84 ?_
  refine gh_iload_n gd_Wants_costAt_4 1 rfl ?_
  obtain ⟨q85, hk⟩ := hk
  refine gh_iadd gd_Wants_costAt_5 q85 ?_
  refine gh_bipush gd_Wants_costAt_6 (by decide) (gh_r0 rfl) ?_
  obtain ⟨q86, hk⟩ := hk
  refine gh_imul gd_Wants_costAt_8 q86 ?_
  refine gh_iload_n gd_Wants_costAt_9 2 rfl ?_
  have q87 := hk
  refine gh_iadd gd_Wants_costAt_10 q87 ?_
  refine gh_ret0 rfl gd_Wants_costAt_11 ⟨rfl, ?_⟩
  rfl
def x_Forest_restAt (v1 : Int) (v2 : Int) (m : gh_M) : Int := (m 43 ((v1 * 9) + v2))
def k_Forest_restAt (v1 : Int) (v2 : Int) : Prop := gh_i (v1 * 9) ∧ gh_i ((v1 * 9) + v2) ∧ 0 ≤ (v1 * 9) + v2 ∧ ((v1 * 9) + v2) < 360
theorem e_Forest_restAt {E : gh_E} {m : gh_M} (d : Nat) (v1 : Int) (v2 : Int) (hF : gh_F m) (hk : k_Forest_restAt v1 v2) : gh_C E gh_yForest_restAt prog_5_method_12_code 3 (some .long) 1 (d + 0) [(2, 41), (0, v1), (0, v2)] m (fun r m1 => m1 = m ∧ r = x_Forest_restAt v1 v2 m) := by
  refine gh_enter2 (L := [(0, 2, 41), (1, 0, v1), (2, 0, v2)]) (by decide +kernel) gh_rt1 (Nat.le_of_ble_eq_true rfl) rfl rfl ?_
  unfold k_Forest_restAt at hk
  refine gh_aload_n gd_Forest_restAt_0 0 rfl (by decide) ?_
  refine gf_41_5 gd_Forest_restAt_1 gh_k408 hF ?_
  refine gh_iload_n gd_Forest_restAt_4 1 rfl ?_
  refine gh_bipush gd_Forest_restAt_5 (by decide) (gh_r0 rfl) ?_
  obtain ⟨q88, hk⟩ := hk
  refine gh_imul gd_Forest_restAt_7 q88 ?_
  refine gh_iload_n gd_Forest_restAt_8 2 rfl ?_
  obtain ⟨q89, hk⟩ := hk
  refine gh_iadd gd_Forest_restAt_9 q89 ?_
  obtain ⟨q90, hk⟩ := hk
  have q91 := hk
  refine la_43 gd_Forest_restAt_10 hF q90 q91 rfl ?_
  refine gh_ret1 rfl gd_Forest_restAt_11 ⟨rfl, ?_⟩
  rfl
def x_Text_letterAt (v1 : Int) (m : gh_M) : Int := (if v1 < 0 then (-1) else (if v1 < (m 26 3) then (m 27 v1) else (-1)))
def k_Text_letterAt (v1 : Int) (m : gh_M) : Prop := (¬ (v1 < 0) → (((v1 < (m 26 3)) → (0 ≤ v1 ∧ v1 < 8))))
theorem e_Text_letterAt {E : gh_E} {m : gh_M} (d : Nat) (v1 : Int) (hF : gh_F m) (hk : k_Text_letterAt v1 m) : gh_C E gh_yText_letterAt prog_11_method_3_code 2 (some .int) 0 (d + 0) [(2, 26), (0, v1)] m (fun r m1 => m1 = m ∧ r = x_Text_letterAt v1 m) := by
  refine gh_enter2 (L := [(0, 2, 26), (1, 0, v1)]) (by decide +kernel) gh_rt0 (Nat.le_of_ble_eq_true rfl) rfl rfl ?_
  unfold k_Text_letterAt at hk
  refine gh_iload_n gd_Text_letterAt_0 1 rfl ?_
  refine gh_zlt (tgt := 21) gd_Text_letterAt_1 (by decide) (fun c94 => ?_) (fun c94 => ?_)
  · have hz : True := trivial
    refine gh_iconst gd_Text_letterAt_21 (gh_r0 rfl) ?_
    refine gh_ret0 rfl gd_Text_letterAt_22 ⟨rfl, ?_⟩
    unfold x_Text_letterAt
    rw [if_pos c94]
  · have hz : True := trivial
    have hk := hk c94
    refine gh_iload_n gd_Text_letterAt_4 1 rfl ?_
    refine gh_aload_n gd_Text_letterAt_5 0 rfl (by decide) ?_
    refine gf_26_3 gd_Text_letterAt_6 gh_k294 hF rfl ?_
    refine gh_jge (tgt := 21) gd_Text_letterAt_9 (by decide) (fun c95 => ?_) (fun c95 => ?_)
    · have hz : True := trivial
      have hk := hk c95
      refine gh_aload_n gd_Text_letterAt_12 0 rfl (by decide) ?_
      refine gf_26_2 gd_Text_letterAt_13 gh_k292 hF ?_
      refine gh_iload_n gd_Text_letterAt_16 1 rfl ?_
      obtain ⟨q92, hk⟩ := hk
      have q93 := hk
      refine la_27 gd_Text_letterAt_17 hF q92 q93 rfl ?_
      refine gh_goto (tgt := 22) gd_Text_letterAt_18 (by decide) ?_
      refine gh_ret0 rfl gd_Text_letterAt_22 ⟨rfl, ?_⟩
      unfold x_Text_letterAt
      rw [if_neg c94, if_pos c95]
    · have hz : True := trivial
      refine gh_iconst gd_Text_letterAt_21 (gh_r0 rfl) ?_
      refine gh_ret0 rfl gd_Text_letterAt_22 ⟨rfl, ?_⟩
      unfold x_Text_letterAt
      rw [if_neg c94, if_neg c95]
def x_House_deep (m : gh_M) : Int := (if (m 2 10) = 0 then (-1003) else (if (m 47 4) ≤ 0 then (-1003) else (m 47 5)))
theorem e_House_deep {E : gh_E} {m : gh_M} (d : Nat) (hF : gh_F m) : gh_C E gh_yHouse_deep prog_1_method_29_code 1 (some .int) 0 (d + 0) [(2, 2)] m (fun r m1 => m1 = m ∧ r = x_House_deep m) := by
  refine gh_enter2 (L := [(0, 2, 2)]) (by decide +kernel) gh_rt0 (Nat.le_of_ble_eq_true rfl) rfl rfl ?_
  refine gh_aload_n gd_House_deep_0 0 rfl (by decide) ?_
  refine gf_2_10 gd_House_deep_1 gh_k550 hF rfl ?_
  refine gh_zeq (tgt := 27) gd_House_deep_4 (by decide) (fun c96 => ?_) (fun c96 => ?_)
  · have hz : True := trivial
    refine gh_sipush gd_House_deep_27 (by decide) (gh_r0 rfl) ?_
    refine gh_ret0 rfl gd_House_deep_30 ⟨rfl, ?_⟩
    unfold x_House_deep
    rw [if_pos c96]
  · have hz : True := trivial
    refine gh_aload_n gd_House_deep_7 0 rfl (by decide) ?_
    refine gf_2_8 gd_House_deep_8 gh_k548 hF ?_
    refine gf_47_4 gd_House_deep_11 gh_k453 hF rfl ?_
    refine gh_zle (tgt := 27) gd_House_deep_14 (by decide) (fun c97 => ?_) (fun c97 => ?_)
    · have hz : True := trivial
      refine gh_sipush gd_House_deep_27 (by decide) (gh_r0 rfl) ?_
      refine gh_ret0 rfl gd_House_deep_30 ⟨rfl, ?_⟩
      unfold x_House_deep
      rw [if_neg c96, if_pos c97]
    · have hz : True := trivial
      refine gh_aload_n gd_House_deep_17 0 rfl (by decide) ?_
      refine gf_2_8 gd_House_deep_18 gh_k548 hF ?_
      refine gf_47_5 gd_House_deep_21 gh_k455 hF rfl ?_
      refine gh_goto (tgt := 30) gd_House_deep_24 (by decide) ?_
      refine gh_ret0 rfl gd_House_deep_30 ⟨rfl, ?_⟩
      unfold x_House_deep
      rw [if_neg c96, if_neg c97]
def x_House_step (v1 : Int) (m : gh_M) : Int := (if (m 2 10) = 0 then (-1003) else (if (m 47 4) = 0 then (-1003) else (if v1 < 0 then (-1001) else (if v1 < (m 47 4) then (m 48 v1) else (-1001)))))
def k_House_step (v1 : Int) (m : gh_M) : Prop := (¬ ((m 2 10) = 0) → ((¬ ((m 47 4) = 0) → ((¬ (v1 < 0) → (((v1 < (m 47 4)) → (0 ≤ v1 ∧ v1 < 300))))))))
theorem e_House_step {E : gh_E} {m : gh_M} (d : Nat) (v1 : Int) (hF : gh_F m) (hk : k_House_step v1 m) : gh_C E gh_yHouse_step prog_1_method_28_code 2 (some .int) 0 (d + 0) [(2, 2), (0, v1)] m (fun r m1 => m1 = m ∧ r = x_House_step v1 m) := by
  refine gh_enter2 (L := [(0, 2, 2), (1, 0, v1)]) (by decide +kernel) gh_rt0 (Nat.le_of_ble_eq_true rfl) rfl rfl ?_
  unfold k_House_step at hk
  refine gh_aload_n gd_House_step_0 0 rfl (by decide) ?_
  refine gf_2_10 gd_House_step_1 gh_k550 hF rfl ?_
  refine gh_zeq (tgt := 17) gd_House_step_4 (by decide) (fun c100 => ?_) (fun c100 => ?_)
  · have hz : True := trivial
    refine gh_sipush gd_House_step_17 (by decide) (gh_r0 rfl) ?_
    refine gh_ret0 rfl gd_House_step_20 ⟨rfl, ?_⟩
    unfold x_House_step
    rw [if_pos c100]
  · have hz : True := trivial
    have hk := hk c100
    refine gh_aload_n gd_House_step_7 0 rfl (by decide) ?_
    refine gf_2_8 gd_House_step_8 gh_k548 hF ?_
    refine gf_47_4 gd_House_step_11 gh_k453 hF rfl ?_
    refine gh_zne (tgt := 21) gd_House_step_14 (by decide) (fun c101 => ?_) (fun c101 => ?_)
    · have hz : True := trivial
      refine gh_sipush gd_House_step_17 (by decide) (gh_r0 rfl) ?_
      refine gh_ret0 rfl gd_House_step_20 ⟨rfl, ?_⟩
      unfold x_House_step
      rw [if_neg c100, if_pos c101]
    · have hz : True := trivial
      have hk := hk c101
      refine gh_iload_n gd_House_step_21 1 rfl ?_
      refine gh_zlt (tgt := 36) gd_House_step_22 (by decide) (fun c102 => ?_) (fun c102 => ?_)
      · have hz : True := trivial
        refine gh_sipush gd_House_step_36 (by decide) (gh_r0 rfl) ?_
        refine gh_goto (tgt := 51) gd_House_step_39 (by decide) ?_
        refine gh_ret0 rfl gd_House_step_51 ⟨rfl, ?_⟩
        unfold x_House_step
        rw [if_neg c100, if_neg c101, if_pos c102]
      · have hz : True := trivial
        have hk := hk c102
        refine gh_iload_n gd_House_step_25 1 rfl ?_
        refine gh_aload_n gd_House_step_26 0 rfl (by decide) ?_
        refine gf_2_8 gd_House_step_27 gh_k548 hF ?_
        refine gf_47_4 gd_House_step_30 gh_k453 hF rfl ?_
        refine gh_jlt (tgt := 42) gd_House_step_33 (by decide) (fun c103 => ?_) (fun c103 => ?_)
        · have hz : True := trivial
          have hk := hk c103
          refine gh_aload_n gd_House_step_42 0 rfl (by decide) ?_
          refine gf_2_8 gd_House_step_43 gh_k548 hF ?_
          refine gf_47_3 gd_House_step_46 gh_k451 hF ?_
          refine gh_iload_n gd_House_step_49 1 rfl ?_
          obtain ⟨q98, hk⟩ := hk
          have q99 := hk
          refine la_48 gd_House_step_50 hF q98 q99 rfl ?_
          refine gh_ret0 rfl gd_House_step_51 ⟨rfl, ?_⟩
          unfold x_House_step
          rw [if_neg c100, if_neg c101, if_neg c102, if_pos c103]
        · have hz : True := trivial
          refine gh_sipush gd_House_step_36 (by decide) (gh_r0 rfl) ?_
          refine gh_goto (tgt := 51) gd_House_step_39 (by decide) ?_
          refine gh_ret0 rfl gd_House_step_51 ⟨rfl, ?_⟩
          unfold x_House_step
          rw [if_neg c100, if_neg c101, if_neg c102, if_neg c103]
abbrev p_House_isRule (v1 : Int) (m : gh_M) : Prop := ¬ (v1 < 0) ∧ (v1 < (m 13 2))
theorem e_House_isRule {E : gh_E} {m : gh_M} (d : Nat) (v1 : Int) (hF : gh_F m) : gh_C E gh_yHouse_isRule prog_1_method_35_code 2 (some .boolean) 8 (d + 0) [(2, 2), (0, v1)] m (fun r m1 => m1 = m ∧ r = (if p_House_isRule v1 m then (1:Int) else 0)) := by
  refine gh_enter2 (L := [(0, 2, 2), (1, 0, v1)]) (by decide +kernel) gh_rt8 (Nat.le_of_ble_eq_true rfl) rfl rfl ?_
  refine gh_iload_n gd_House_isRule_0 1 rfl ?_
  refine gh_zlt (tgt := 19) gd_House_isRule_1 (by decide) (fun c104 => ?_) (fun c104 => ?_)
  · have hz : True := trivial
    refine gh_iconst gd_House_isRule_19 (gh_r0 rfl) ?_
    refine gh_ret8 rfl gd_House_isRule_20 (by decide) ⟨rfl, ?_⟩
    exact (if_neg (c := p_House_isRule v1 m) (fun z => z.1 c104)).symm
  · have hz : True := trivial
    refine gh_iload_n gd_House_isRule_4 1 rfl ?_
    refine gh_aload_n gd_House_isRule_5 0 rfl (by decide) ?_
    refine gf_2_2 gd_House_isRule_6 gh_k542 hF ?_
    refine gf_13_2 gd_House_isRule_9 gh_k190 hF rfl ?_
    refine gh_jge (tgt := 19) gd_House_isRule_12 (by decide) (fun c105 => ?_) (fun c105 => ?_)
    · have hz : True := trivial
      refine gh_iconst gd_House_isRule_15 (gh_r0 rfl) ?_
      refine gh_goto (tgt := 20) gd_House_isRule_16 (by decide) ?_
      refine gh_ret8 rfl gd_House_isRule_20 (by decide) ⟨rfl, ?_⟩
      exact (if_pos (c := p_House_isRule v1 m) ⟨c104, c105⟩).symm
    · have hz : True := trivial
      refine gh_iconst gd_House_isRule_19 (gh_r0 rfl) ?_
      refine gh_ret8 rfl gd_House_isRule_20 (by decide) ⟨rfl, ?_⟩
      exact (if_neg (c := p_House_isRule v1 m) (fun z => c105 z.2)).symm
def x_House_rule (v1 : Int) (v2 : Int) (m : gh_M) : Int := (if (m 2 10) = 0 then (if v2 < 0 then (-1002) else (if v2 ≤ 1 then (if (m 2 10) = 0 then (-1003) else (if v2 = 0 then (m 16 v1) else (m 17 v1))) else (-1002))) else (if p_House_isRule v1 m then (if v2 < 0 then (-1002) else (if v2 ≤ 1 then (if (m 2 10) = 0 then (-1003) else (if v2 = 0 then (m 16 v1) else (m 17 v1))) else (-1002))) else (-1001)))
def k_House_rule (v1 : Int) (v2 : Int) (m : gh_M) : Prop := (((m 2 10) = 0) → ((¬ (v2 < 0) → (((v2 ≤ 1) → ((¬ ((m 2 10) = 0) → (((v2 = 0) → (0 ≤ v1 ∧ v1 < 20)) ∧ (¬ (v2 = 0) → (0 ≤ v1 ∧ v1 < 20)))))))))) ∧ (¬ ((m 2 10) = 0) → (((p_House_isRule v1 m) → ((¬ (v2 < 0) → (((v2 ≤ 1) → ((¬ ((m 2 10) = 0) → (((v2 = 0) → (0 ≤ v1 ∧ v1 < 20)) ∧ (¬ (v2 = 0) → (0 ≤ v1 ∧ v1 < 20))))))))))))
theorem e_House_rule {E : gh_E} {m : gh_M} (d : Nat) (v1 : Int) (v2 : Int) (hF : gh_F m) (hk : k_House_rule v1 v2 m) : gh_C E gh_yHouse_rule prog_1_method_10_code 3 (some .int) 0 (d + 1) [(2, 2), (0, v1), (0, v2)] m (fun r m1 => m1 = m ∧ r = x_House_rule v1 v2 m) := by
  refine gh_enter2 (L := [(0, 2, 2), (1, 0, v1), (2, 0, v2)]) (by decide +kernel) gh_rt0 (Nat.le_of_ble_eq_true rfl) rfl rfl ?_
  unfold k_House_rule at hk
  refine gh_aload_n gd_House_rule_0 0 rfl (by decide) ?_
  refine gf_2_10 gd_House_rule_1 gh_k550 hF rfl ?_
  refine gh_zeq (tgt := 19) gd_House_rule_4 (by decide) (fun c114 => ?_) (fun c114 => ?_)
  · have hz : True := trivial
    have hk := hk.1 c114
    refine gh_iload_n gd_House_rule_19 2 rfl ?_
    refine gh_zlt (tgt := 28) gd_House_rule_20 (by decide) (fun c115 => ?_) (fun c115 => ?_)
    · have hz : True := trivial
      refine gh_sipush gd_House_rule_28 (by decide) (gh_r0 rfl) ?_
      refine gh_ret0 rfl gd_House_rule_31 ⟨rfl, ?_⟩
      unfold x_House_rule
      rw [if_pos c114, if_pos c115]
    · have hz : True := trivial
      have hk := hk c115
      refine gh_iload_n gd_House_rule_23 2 rfl ?_
      refine gh_iconst gd_House_rule_24 (gh_r0 rfl) ?_
      refine gh_jle (tgt := 32) gd_House_rule_25 (by decide) (fun c116 => ?_) (fun c116 => ?_)
      · have hz : True := trivial
        have hk := hk c116
        refine gh_aload_n gd_House_rule_32 0 rfl (by decide) ?_
        refine gf_2_10 gd_House_rule_33 gh_k550 hF rfl ?_
        refine gh_zne (tgt := 43) gd_House_rule_36 (by decide) (fun c117 => ?_) (fun c117 => ?_)
        · have hz : True := trivial
          refine gh_sipush gd_House_rule_39 (by decide) (gh_r0 rfl) ?_
          refine gh_ret0 rfl gd_House_rule_42 ⟨rfl, ?_⟩
          unfold x_House_rule
          rw [if_pos c114, if_neg c115, if_pos c116, if_pos c117]
        · have hz : True := trivial
          have hk := hk c117
          refine gh_iload_n gd_House_rule_43 2 rfl ?_
          refine gh_zne (tgt := 59) gd_House_rule_44 (by decide) (fun c118 => ?_) (fun c118 => ?_)
          · have hz : True := trivial
            have hk := hk.1 c118
            refine gh_aload_n gd_House_rule_47 0 rfl (by decide) ?_
            refine gf_2_2 gd_House_rule_48 gh_k542 hF ?_
            refine gf_13_5 gd_House_rule_51 gh_k203 hF ?_
            refine gh_iload_n gd_House_rule_54 1 rfl ?_
            obtain ⟨q106, hk⟩ := hk
            have q107 := hk
            refine la_16 gd_House_rule_55 hF q106 q107 rfl ?_
            refine gh_goto (tgt := 68) gd_House_rule_56 (by decide) ?_
            refine gh_ret0 rfl gd_House_rule_68 ⟨rfl, ?_⟩
            unfold x_House_rule
            rw [if_pos c114, if_neg c115, if_pos c116, if_neg c117, if_pos c118]
          · have hz : True := trivial
            have hk := hk.2 c118
            refine gh_aload_n gd_House_rule_59 0 rfl (by decide) ?_
            refine gf_2_2 gd_House_rule_60 gh_k542 hF ?_
            refine gf_13_6 gd_House_rule_63 gh_k210 hF ?_
            refine gh_iload_n gd_House_rule_66 1 rfl ?_
            obtain ⟨q108, hk⟩ := hk
            have q109 := hk
            refine la_17 gd_House_rule_67 hF q108 q109 rfl ?_
            refine gh_ret0 rfl gd_House_rule_68 ⟨rfl, ?_⟩
            unfold x_House_rule
            rw [if_pos c114, if_neg c115, if_pos c116, if_neg c117, if_neg c118]
      · have hz : True := trivial
        refine gh_sipush gd_House_rule_28 (by decide) (gh_r0 rfl) ?_
        refine gh_ret0 rfl gd_House_rule_31 ⟨rfl, ?_⟩
        unfold x_House_rule
        rw [if_pos c114, if_neg c115, if_neg c116]
  · have hz : True := trivial
    have hk := hk.2 c114
    refine gh_aload_n gd_House_rule_7 0 rfl (by decide) ?_
    refine gh_iload_n gd_House_rule_8 1 rfl ?_
    refine cv_House_isRule (d := d) gd_House_rule_9 gh_k1183 hF (Nat.le_of_ble_eq_true rfl) (gh_C.pe (e_House_isRule d v1 hF) ?_)
    refine gh_bne (tgt := 19) gd_House_rule_12 (by decide) (fun c119 => ?_) (fun c119 => ?_)
    · have hz : True := trivial
      have hk := hk c119
      refine gh_iload_n gd_House_rule_19 2 rfl ?_
      refine gh_zlt (tgt := 28) gd_House_rule_20 (by decide) (fun c120 => ?_) (fun c120 => ?_)
      · have hz : True := trivial
        refine gh_sipush gd_House_rule_28 (by decide) (gh_r0 rfl) ?_
        refine gh_ret0 rfl gd_House_rule_31 ⟨rfl, ?_⟩
        unfold x_House_rule
        rw [if_neg c114, if_pos c119, if_pos c120]
      · have hz : True := trivial
        have hk := hk c120
        refine gh_iload_n gd_House_rule_23 2 rfl ?_
        refine gh_iconst gd_House_rule_24 (gh_r0 rfl) ?_
        refine gh_jle (tgt := 32) gd_House_rule_25 (by decide) (fun c121 => ?_) (fun c121 => ?_)
        · have hz : True := trivial
          have hk := hk c121
          refine gh_aload_n gd_House_rule_32 0 rfl (by decide) ?_
          refine gf_2_10 gd_House_rule_33 gh_k550 hF rfl ?_
          refine gh_zne (tgt := 43) gd_House_rule_36 (by decide) (fun c122 => ?_) (fun c122 => ?_)
          · have hz : True := trivial
            refine gh_sipush gd_House_rule_39 (by decide) (gh_r0 rfl) ?_
            refine gh_ret0 rfl gd_House_rule_42 ⟨rfl, ?_⟩
            unfold x_House_rule
            rw [if_neg c114, if_pos c119, if_neg c120, if_pos c121, if_pos c122]
          · have hz : True := trivial
            have hk := hk c122
            refine gh_iload_n gd_House_rule_43 2 rfl ?_
            refine gh_zne (tgt := 59) gd_House_rule_44 (by decide) (fun c123 => ?_) (fun c123 => ?_)
            · have hz : True := trivial
              have hk := hk.1 c123
              refine gh_aload_n gd_House_rule_47 0 rfl (by decide) ?_
              refine gf_2_2 gd_House_rule_48 gh_k542 hF ?_
              refine gf_13_5 gd_House_rule_51 gh_k203 hF ?_
              refine gh_iload_n gd_House_rule_54 1 rfl ?_
              obtain ⟨q110, hk⟩ := hk
              have q111 := hk
              refine la_16 gd_House_rule_55 hF q110 q111 rfl ?_
              refine gh_goto (tgt := 68) gd_House_rule_56 (by decide) ?_
              refine gh_ret0 rfl gd_House_rule_68 ⟨rfl, ?_⟩
              unfold x_House_rule
              rw [if_neg c114, if_pos c119, if_neg c120, if_pos c121, if_neg c122, if_pos c123]
            · have hz : True := trivial
              have hk := hk.2 c123
              refine gh_aload_n gd_House_rule_59 0 rfl (by decide) ?_
              refine gf_2_2 gd_House_rule_60 gh_k542 hF ?_
              refine gf_13_6 gd_House_rule_63 gh_k210 hF ?_
              refine gh_iload_n gd_House_rule_66 1 rfl ?_
              obtain ⟨q112, hk⟩ := hk
              have q113 := hk
              refine la_17 gd_House_rule_67 hF q112 q113 rfl ?_
              refine gh_ret0 rfl gd_House_rule_68 ⟨rfl, ?_⟩
              unfold x_House_rule
              rw [if_neg c114, if_pos c119, if_neg c120, if_pos c121, if_neg c122, if_neg c123]
        · have hz : True := trivial
          refine gh_sipush gd_House_rule_28 (by decide) (gh_r0 rfl) ?_
          refine gh_ret0 rfl gd_House_rule_31 ⟨rfl, ?_⟩
          unfold x_House_rule
          rw [if_neg c114, if_pos c119, if_neg c120, if_neg c121]
    · have hz : True := trivial
      refine gh_sipush gd_House_rule_15 (by decide) (gh_r0 rfl) ?_
      refine gh_ret0 rfl gd_House_rule_18 ⟨rfl, ?_⟩
      unfold x_House_rule
      rw [if_neg c114, if_neg c119]
