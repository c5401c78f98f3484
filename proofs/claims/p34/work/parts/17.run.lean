def w_Draft_clear (m : gh_M) (Q : Int → gh_M → Prop) : Prop := Q 0 (gh_u (gh_u (gh_u m 6 1 0) 6 2 0) 6 3 0)
theorem s_Draft_clear {E : gh_E} {m : gh_M} {Q : Int → gh_M → Prop} (d : Nat) (hF : gh_F m) (h : w_Draft_clear m Q) : gh_C E gh_yDraft_clear prog_3_method_2_code 1 none 9 (d + 0) [(2, 6)] m (fun r m1 => gh_F m1 ∧ Q r m1) := by
  refine gh_enter2 (L := [(0, 2, 6)]) (by decide +kernel) gh_rt9 (Nat.le_of_ble_eq_true rfl) rfl rfl ?_
  unfold w_Draft_clear at h
  refine gh_aload_n gd_Draft_clear_0 0 rfl (by decide) ?_
  refine gh_iconst gd_Draft_clear_1 (gh_r0 rfl) ?_
  refine pf_6_1 gd_Draft_clear_2 gh_k118 hF (fun hF => ?_)
  refine gh_aload_n gd_Draft_clear_5 0 rfl (by decide) ?_
  refine gh_iconst gd_Draft_clear_6 (gh_r0 rfl) ?_
  refine pf_6_2 gd_Draft_clear_7 gh_k120 hF (fun hF => ?_)
  refine gh_aload_n gd_Draft_clear_10 0 rfl (by decide) ?_
  refine gh_iconst gd_Draft_clear_11 (gh_r0 rfl) ?_
  refine pf_6_3 gd_Draft_clear_12 gh_k121 hF (fun hF => ?_)
  exact gh_ret9 rfl gd_Draft_clear_15 ⟨hF, h⟩
def w_Tape_rewind (m : gh_M) (Q : Int → gh_M → Prop) : Prop := Q 0 (gh_u m 3 4 0)
theorem s_Tape_rewind {E : gh_E} {m : gh_M} {Q : Int → gh_M → Prop} (d : Nat) (hF : gh_F m) (h : w_Tape_rewind m Q) : gh_C E gh_yTape_rewind prog_10_method_6_code 1 none 9 (d + 0) [(2, 3)] m (fun r m1 => gh_F m1 ∧ Q r m1) := by
  refine gh_enter2 (L := [(0, 2, 3)]) (by decide +kernel) gh_rt9 (Nat.le_of_ble_eq_true rfl) rfl rfl ?_
  unfold w_Tape_rewind at h
  refine gh_aload_n gd_Tape_rewind_0 0 rfl (by decide) ?_
  refine gh_iconst gd_Tape_rewind_1 (gh_r0 rfl) ?_
  refine pf_3_4 gd_Tape_rewind_2 gh_k92 hF (fun hF => ?_)
  exact gh_ret9 rfl gd_Tape_rewind_5 ⟨hF, h⟩
def f_Tape_lookAtName_0 (Q : Int → gh_M → Prop) (K0 : gh_M → Prop) (m : gh_M) : Prop := ∃ J38 : gh_M → Prop, (∀ (m : gh_M), J38 m → gh_i ((m 3 4) - (m 3 3)) ∧ Q 0 (gh_u m 3 2 (if ((m 3 4) - (m 3 3)) ≤ 3 then 1 else 5))) ∧ ((((m 3 4) < (m 3 1)) → (k_Tape_signAt (m 3 4) m))) ∧ (((((m 3 4) < (m 3 1)) ∧ ((¬ ((x_Tape_signAt (m 3 4) m) < 48) ∧ ((x_Tape_signAt (m 3 4) m) ≤ 57)))) → gh_i ((m 3 4) + 1) ∧ K0 (gh_u m 3 4 ((m 3 4) + 1))) ∧ (¬ (((m 3 4) < (m 3 1)) ∧ ((¬ ((x_Tape_signAt (m 3 4) m) < 48) ∧ ((x_Tape_signAt (m 3 4) m) ≤ 57)))) → J38 m))
def w_Tape_lookAtName (m : gh_M) (Q : Int → gh_M → Prop) : Prop := gh_M0 (fun K0 m => f_Tape_lookAtName_0 Q K0 m) m
theorem b_Tape_lookAtName_0 {E : gh_E} {Q : Int → gh_M → Prop} {K0 : gh_M → Prop} (d : Nat) (hK : ∀ (m : gh_M), gh_F m → K0 m → gh_T E (gh_yTape_lookAtName.cls, prog_10_method_8_code, 1, false, 9) (d + 1) 0 [(0, 2, 3)] [] m (fun r m1 => gh_F m1 ∧ Q r m1)) (m : gh_M) (hF : gh_F m) (h : f_Tape_lookAtName_0 Q K0 m) : gh_T E (gh_yTape_lookAtName.cls, prog_10_method_8_code, 1, false, 9) (d + 1) 0 [(0, 2, 3)] [] m (fun r m1 => gh_F m1 ∧ Q r m1) := by
  have hK0 := hK
  unfold f_Tape_lookAtName_0 at h
  refine gh_aload_n gd_Tape_lookAtName_0 0 rfl (by decide) ?_
  refine gf_3_4 gd_Tape_lookAtName_1 gh_k92 hF rfl ?_
  refine gh_aload_n gd_Tape_lookAtName_4 0 rfl (by decide) ?_
  refine gf_3_1 gd_Tape_lookAtName_5 gh_k87 hF rfl ?_
  obtain ⟨J38, hJ38, h⟩ := h
  have hJ38 : ∀ (m : gh_M), gh_F m → J38 m → gh_T E (gh_yTape_lookAtName.cls, prog_10_method_8_code, 1, false, 9) (d + 1) 38 [(0, 2, 3)] [] m (fun r m1 => gh_F m1 ∧ Q r m1) := by
    intro m hF hj
    have h := hJ38 m hj
    refine gh_aload_n gd_Tape_lookAtName_38 0 rfl (by decide) ?_
    refine gh_aload_n gd_Tape_lookAtName_39 0 rfl (by decide) ?_
    refine gf_3_4 gd_Tape_lookAtName_40 gh_k92 hF rfl ?_
    refine gh_aload_n gd_Tape_lookAtName_43 0 rfl (by decide) ?_
    refine gf_3_3 gd_Tape_lookAtName_44 gh_k91 hF rfl ?_
    obtain ⟨q124, h⟩ := h
    refine gh_isub gd_Tape_lookAtName_47 q124 ?_
    refine gh_iconst gd_Tape_lookAtName_48 (gh_r0 rfl) ?_
    have k125 : ∀ x126 : Int, x126 = (if ((m 3 4) - (m 3 3)) ≤ 3 then 1 else 5) → gh_T E (gh_yTape_lookAtName.cls, prog_10_method_8_code, 1, false, 9) (d + 1) 57 [(0, 2, 3)] [(0, x126), (2, 3)] m (fun r m1 => gh_F m1 ∧ Q r m1) := by
      rintro _ rfl
      refine pf_3_2 gd_Tape_lookAtName_57 gh_k89 hF (fun hF => ?_)
      exact gh_ret9 rfl gd_Tape_lookAtName_60 ⟨hF, h⟩
    refine gh_jgt (tgt := 56) gd_Tape_lookAtName_49 (by decide) (fun c127 => ?_) (fun c127 => ?_)
    · have hz : True := trivial
      refine gh_iconst gd_Tape_lookAtName_52 (gh_r0 rfl) ?_
      refine gh_goto (tgt := 57) gd_Tape_lookAtName_53 (by decide) ?_
      exact k125 _ (by rw [if_pos c127])
    · have hz : True := trivial
      refine gh_iconst gd_Tape_lookAtName_56 (gh_r0 rfl) ?_
      exact k125 _ (by rw [if_neg c127])
  obtain ⟨hk, hA, hB⟩ := h
  have k129 : (((m 3 4) < (m 3 1)) ∧ ((¬ ((x_Tape_signAt (m 3 4) m) < 48) ∧ ((x_Tape_signAt (m 3 4) m) ≤ 57)))) → gh_T E (gh_yTape_lookAtName.cls, prog_10_method_8_code, 1, false, 9) (d + 1) 25 [(0, 2, 3)] [] m (fun r m1 => gh_F m1 ∧ Q r m1) := by
    intro c
    have h := hA c
    refine gh_aload_n gd_Tape_lookAtName_25 0 rfl (by decide) ?_
    refine gh_dup gd_Tape_lookAtName_26 (by decide) ?_
    refine gf_3_4 gd_Tape_lookAtName_27 gh_k92 hF rfl ?_
    refine gh_iconst gd_Tape_lookAtName_30 (gh_r0 rfl) ?_
    obtain ⟨q131, h⟩ := h
    refine gh_iadd gd_Tape_lookAtName_31 q131 ?_
    refine pf_3_4 gd_Tape_lookAtName_32 gh_k92 hF (fun hF => ?_)
    refine gh_goto (tgt := 0) gd_Tape_lookAtName_35 (by decide) ?_
    exact hK0 (gh_u m 3 4 ((m 3 4) + 1)) hF h
  have k130 : ¬ (((m 3 4) < (m 3 1)) ∧ ((¬ ((x_Tape_signAt (m 3 4) m) < 48) ∧ ((x_Tape_signAt (m 3 4) m) ≤ 57)))) → gh_T E (gh_yTape_lookAtName.cls, prog_10_method_8_code, 1, false, 9) (d + 1) 38 [(0, 2, 3)] [] m (fun r m1 => gh_F m1 ∧ Q r m1) := by
    intro c
    have h := hB c
    exact hJ38 m hF h
  refine gh_jge (tgt := 38) gd_Tape_lookAtName_8 (by decide) (fun c132 => ?_) (fun c132 => ?_)
  · have hz : True := trivial
    have hk := hk c132
    refine gh_aload_n gd_Tape_lookAtName_11 0 rfl (by decide) ?_
    refine gh_aload_n gd_Tape_lookAtName_12 0 rfl (by decide) ?_
    refine gf_3_4 gd_Tape_lookAtName_13 gh_k92 hF rfl ?_
    have q128 := hk
    refine cv_Tape_signAt (d := d) gd_Tape_lookAtName_16 gh_k594 hF (Nat.le_of_ble_eq_true rfl) (gh_C.pe (e_Tape_signAt d (m 3 4) hF q128) ?_)
    refine cv_Tape_isFigure (d := d) gd_Tape_lookAtName_19 gh_k602 (Nat.le_of_ble_eq_true rfl) (gh_C.pe (e_Tape_isFigure d (x_Tape_signAt (m 3 4) m)) ?_)
    refine gh_beq (tgt := 38) gd_Tape_lookAtName_22 (by decide) (fun c133 => ?_) (fun c133 => ?_)
    · have hz : True := trivial
      exact k129 ⟨c132, c133⟩
    · have hz : True := trivial
      exact k130 (fun z => c133 z.2)
  · have hz : True := trivial
    exact k130 (fun z => c132 z.1)
theorem s_Tape_lookAtName {E : gh_E} {m : gh_M} {Q : Int → gh_M → Prop} (d : Nat) (hF : gh_F m) (h : w_Tape_lookAtName m Q) : gh_C E gh_yTape_lookAtName prog_10_method_8_code 1 none 9 (d + 1) [(2, 3)] m (fun r m1 => gh_F m1 ∧ Q r m1) := by
  refine gh_enter2 (L := [(0, 2, 3)]) (by decide +kernel) gh_rt9 (Nat.le_of_ble_eq_true rfl) rfl rfl ?_
  unfold w_Tape_lookAtName at h
  exact gh_M0_sound (T := fun m => gh_T E (gh_yTape_lookAtName.cls, prog_10_method_8_code, 1, false, 9) (d + 1) 0 [(0, 2, 3)] [] m (fun r m1 => gh_F m1 ∧ Q r m1)) (fun m => gh_F m) (fun K0 m hK hF h => b_Tape_lookAtName_0 d hK m hF h) m hF h
def f_Tape_lookAtQuote_0 (Q : Int → gh_M → Prop) (K0 : gh_M → Prop) (m : gh_M) : Prop := ∃ J38 : gh_M → Prop, (∀ (m : gh_M), J38 m → gh_i ((m 3 4) - (m 3 3)) ∧ gh_i (((m 3 4) - (m 3 3)) - 1) ∧ ∀ v1 : Int, v1 = ((m 3 4) - (m 3 3)) - 1 → k_Tape_signAt (m 3 4) m ∧ gh_i ((m 3 4) + 1) ∧ Q 0 (gh_u (gh_u m 3 2 (if (x_Tape_signAt (m 3 4) m) = 39 then (if v1 < 1 then 5 else (if v1 ≤ 3 then 2 else 5)) else 5)) 3 4 ((m 3 4) + 1))) ∧ ((((m 3 4) < (m 3 1)) → (k_Tape_signAt (m 3 4) m))) ∧ (((((m 3 4) < (m 3 1)) ∧ ((¬ ((x_Tape_signAt (m 3 4) m) < 97) ∧ ((x_Tape_signAt (m 3 4) m) ≤ 122)))) → gh_i ((m 3 4) + 1) ∧ K0 (gh_u m 3 4 ((m 3 4) + 1))) ∧ (¬ (((m 3 4) < (m 3 1)) ∧ ((¬ ((x_Tape_signAt (m 3 4) m) < 97) ∧ ((x_Tape_signAt (m 3 4) m) ≤ 122)))) → J38 m))
def w_Tape_lookAtQuote (m : gh_M) (Q : Int → gh_M → Prop) : Prop := gh_M0 (fun K0 m => f_Tape_lookAtQuote_0 Q K0 m) m
theorem b_Tape_lookAtQuote_0 {E : gh_E} {Q : Int → gh_M → Prop} {K0 : gh_M → Prop} (d : Nat) (hK : ∀ (m : gh_M), gh_F m → K0 m → gh_T E (gh_yTape_lookAtQuote.cls, prog_10_method_9_code, 2, false, 9) (d + 1) 0 [(0, 2, 3)] [] m (fun r m1 => gh_F m1 ∧ Q r m1)) (m : gh_M) (hF : gh_F m) (h : f_Tape_lookAtQuote_0 Q K0 m) : gh_T E (gh_yTape_lookAtQuote.cls, prog_10_method_9_code, 2, false, 9) (d + 1) 0 [(0, 2, 3)] [] m (fun r m1 => gh_F m1 ∧ Q r m1) := by
  have hK0 := hK
  unfold f_Tape_lookAtQuote_0 at h
  refine gh_aload_n gd_Tape_lookAtQuote_0 0 rfl (by decide) ?_
  refine gf_3_4 gd_Tape_lookAtQuote_1 gh_k92 hF rfl ?_
  refine gh_aload_n gd_Tape_lookAtQuote_4 0 rfl (by decide) ?_
  refine gf_3_1 gd_Tape_lookAtQuote_5 gh_k87 hF rfl ?_
  obtain ⟨J38, hJ38, h⟩ := h
  have hJ38 : ∀ (m : gh_M), gh_F m → J38 m → gh_T E (gh_yTape_lookAtQuote.cls, prog_10_method_9_code, 2, false, 9) (d + 1) 38 [(0, 2, 3)] [] m (fun r m1 => gh_F m1 ∧ Q r m1) := by
    intro m hF hj
    have h := hJ38 m hj
    refine gh_aload_n gd_Tape_lookAtQuote_38 0 rfl (by decide) ?_
    refine gf_3_4 gd_Tape_lookAtQuote_39 gh_k92 hF rfl ?_
    refine gh_aload_n gd_Tape_lookAtQuote_42 0 rfl (by decide) ?_
    refine gf_3_3 gd_Tape_lookAtQuote_43 gh_k91 hF rfl ?_
    obtain ⟨q134, h⟩ := h
    refine gh_isub gd_Tape_lookAtQuote_46 q134 ?_
    refine gh_iconst gd_Tape_lookAtQuote_47 (gh_r0 rfl) ?_
    obtain ⟨q135, h⟩ := h
    refine gh_isub gd_Tape_lookAtQuote_48 q135 ?_
    refine gh_name (fun v1 hn => ?_)
    have h := h v1 hn
    refine gh_istore_n (L2 := [(1, 0, v1), (0, 2, 3)]) gd_Tape_lookAtQuote_49 (by decide) rfl ?_
    refine gh_aload_n gd_Tape_lookAtQuote_50 1 rfl (by decide) ?_
    refine gh_aload_n gd_Tape_lookAtQuote_51 1 rfl (by decide) ?_
    refine gh_aload_n gd_Tape_lookAtQuote_52 1 rfl (by decide) ?_
    refine gf_3_4 gd_Tape_lookAtQuote_53 gh_k92 hF rfl ?_
    obtain ⟨q136, h⟩ := h
    refine cv_Tape_signAt (d := d) gd_Tape_lookAtQuote_56 gh_k594 hF (Nat.le_of_ble_eq_true rfl) (gh_C.pe (e_Tape_signAt d (m 3 4) hF q136) ?_)
    refine gh_bipush gd_Tape_lookAtQuote_59 (by decide) (gh_r0 rfl) ?_
    have k137 : ∀ x138 : Int, x138 = (if (x_Tape_signAt (m 3 4) m) = 39 then (if v1 < 1 then 5 else (if v1 ≤ 3 then 2 else 5)) else 5) → gh_T E (gh_yTape_lookAtQuote.cls, prog_10_method_9_code, 2, false, 9) (d + 1) 79 [(1, 0, v1), (0, 2, 3)] [(0, x138), (2, 3)] m (fun r m1 => gh_F m1 ∧ Q r m1) := by
      rintro _ rfl
      refine pf_3_2 gd_Tape_lookAtQuote_79 gh_k89 hF (fun hF => ?_)
      refine gh_aload_n gd_Tape_lookAtQuote_82 1 rfl (by decide) ?_
      refine gh_dup gd_Tape_lookAtQuote_83 (by decide) ?_
      refine gf_3_4 gd_Tape_lookAtQuote_84 gh_k92 hF (gh_u_i (by decide)) ?_
      refine gh_iconst gd_Tape_lookAtQuote_87 (gh_r0 rfl) ?_
      obtain ⟨q139, h⟩ := h
      refine gh_iadd gd_Tape_lookAtQuote_88 q139 ?_
      refine pf_3_4 gd_Tape_lookAtQuote_89 gh_k92 hF (fun hF => ?_)
      exact gh_ret9 rfl gd_Tape_lookAtQuote_92 ⟨hF, h⟩
    refine gh_jne (tgt := 78) gd_Tape_lookAtQuote_61 (by decide) (fun c140 => ?_) (fun c140 => ?_)
    · have hz : True := trivial
      refine gh_iload_n gd_Tape_lookAtQuote_64 0 rfl ?_
      refine gh_iconst gd_Tape_lookAtQuote_65 (gh_r0 rfl) ?_
      refine gh_jlt (tgt := 78) gd_Tape_lookAtQuote_66 (by decide) (fun c141 => ?_) (fun c141 => ?_)
      · have hz : True := trivial
        refine gh_iconst gd_Tape_lookAtQuote_78 (gh_r0 rfl) ?_
        exact k137 _ (by rw [if_pos c140, if_pos c141])
      · have hz : True := trivial
        refine gh_iload_n gd_Tape_lookAtQuote_69 0 rfl ?_
        refine gh_iconst gd_Tape_lookAtQuote_70 (gh_r0 rfl) ?_
        refine gh_jgt (tgt := 78) gd_Tape_lookAtQuote_71 (by decide) (fun c142 => ?_) (fun c142 => ?_)
        · have hz : True := trivial
          refine gh_iconst gd_Tape_lookAtQuote_74 (gh_r0 rfl) ?_
          refine gh_goto (tgt := 79) gd_Tape_lookAtQuote_75 (by decide) ?_
          exact k137 _ (by rw [if_pos c140, if_neg c141, if_pos c142])
        · have hz : True := trivial
          refine gh_iconst gd_Tape_lookAtQuote_78 (gh_r0 rfl) ?_
          exact k137 _ (by rw [if_pos c140, if_neg c141, if_neg c142])
    · have hz : True := trivial
      refine gh_iconst gd_Tape_lookAtQuote_78 (gh_r0 rfl) ?_
      exact k137 _ (by rw [if_neg c140])
  obtain ⟨hk, hA, hB⟩ := h
  have k144 : (((m 3 4) < (m 3 1)) ∧ ((¬ ((x_Tape_signAt (m 3 4) m) < 97) ∧ ((x_Tape_signAt (m 3 4) m) ≤ 122)))) → gh_T E (gh_yTape_lookAtQuote.cls, prog_10_method_9_code, 2, false, 9) (d + 1) 25 [(0, 2, 3)] [] m (fun r m1 => gh_F m1 ∧ Q r m1) := by
    intro c
    have h := hA c
    refine gh_aload_n gd_Tape_lookAtQuote_25 0 rfl (by decide) ?_
    refine gh_dup gd_Tape_lookAtQuote_26 (by decide) ?_
    refine gf_3_4 gd_Tape_lookAtQuote_27 gh_k92 hF rfl ?_
    refine gh_iconst gd_Tape_lookAtQuote_30 (gh_r0 rfl) ?_
    obtain ⟨q146, h⟩ := h
    refine gh_iadd gd_Tape_lookAtQuote_31 q146 ?_
    refine pf_3_4 gd_Tape_lookAtQuote_32 gh_k92 hF (fun hF => ?_)
    refine gh_goto (tgt := 0) gd_Tape_lookAtQuote_35 (by decide) ?_
    exact hK0 (gh_u m 3 4 ((m 3 4) + 1)) hF h
  have k145 : ¬ (((m 3 4) < (m 3 1)) ∧ ((¬ ((x_Tape_signAt (m 3 4) m) < 97) ∧ ((x_Tape_signAt (m 3 4) m) ≤ 122)))) → gh_T E (gh_yTape_lookAtQuote.cls, prog_10_method_9_code, 2, false, 9) (d + 1) 38 [(0, 2, 3)] [] m (fun r m1 => gh_F m1 ∧ Q r m1) := by
    intro c
    have h := hB c
    exact hJ38 m hF h
  refine gh_jge (tgt := 38) gd_Tape_lookAtQuote_8 (by decide) (fun c147 => ?_) (fun c147 => ?_)
  · have hz : True := trivial
    have hk := hk c147
    refine gh_aload_n gd_Tape_lookAtQuote_11 0 rfl (by decide) ?_
    refine gh_aload_n gd_Tape_lookAtQuote_12 0 rfl (by decide) ?_
    refine gf_3_4 gd_Tape_lookAtQuote_13 gh_k92 hF rfl ?_
    have q143 := hk
    refine cv_Tape_signAt (d := d) gd_Tape_lookAtQuote_16 gh_k594 hF (Nat.le_of_ble_eq_true rfl) (gh_C.pe (e_Tape_signAt d (m 3 4) hF q143) ?_)
    refine cv_Tape_isSmall (d := d) gd_Tape_lookAtQuote_19 gh_k609 (Nat.le_of_ble_eq_true rfl) (gh_C.pe (e_Tape_isSmall d (x_Tape_signAt (m 3 4) m)) ?_)
    refine gh_beq (tgt := 38) gd_Tape_lookAtQuote_22 (by decide) (fun c148 => ?_) (fun c148 => ?_)
    · have hz : True := trivial
      exact k144 ⟨c147, c148⟩
    · have hz : True := trivial
      exact k145 (fun z => c148 z.2)
  · have hz : True := trivial
    exact k145 (fun z => c147 z.1)
theorem s_Tape_lookAtQuote {E : gh_E} {m : gh_M} {Q : Int → gh_M → Prop} (d : Nat) (hF : gh_F m) (h : w_Tape_lookAtQuote m Q) : gh_C E gh_yTape_lookAtQuote prog_10_method_9_code 2 none 9 (d + 1) [(2, 3)] m (fun r m1 => gh_F m1 ∧ Q r m1) := by
  refine gh_enter2 (L := [(0, 2, 3)]) (by decide +kernel) gh_rt9 (Nat.le_of_ble_eq_true rfl) rfl rfl ?_
  unfold w_Tape_lookAtQuote at h
  exact gh_M0_sound (T := fun m => gh_T E (gh_yTape_lookAtQuote.cls, prog_10_method_9_code, 2, false, 9) (d + 1) 0 [(0, 2, 3)] [] m (fun r m1 => gh_F m1 ∧ Q r m1)) (fun m => gh_F m) (fun K0 m hK hF h => b_Tape_lookAtQuote_0 d hK m hF h) m hF h
def w_Tape_lookAtClass (m : gh_M) (Q : Int → gh_M → Prop) : Prop := gh_i ((m 3 3) + 1) ∧ k_Tape_signAt ((m 3 3) + 1) m ∧ ∀ v1 : Int, v1 = x_Tape_signAt ((m 3 3) + 1) m → gh_i ((m 3 3) + 3) ∧ k_Tape_signAt ((m 3 3) + 3) m ∧ ∀ v2 : Int, v2 = x_Tape_signAt ((m 3 3) + 3) m → ((((¬ (v1 < 97) ∧ (v1 ≤ 122))) → (gh_i ((m 3 3) + 2) ∧ k_Tape_signAt ((m 3 3) + 2) m ∧ (((x_Tape_signAt ((m 3 3) + 2) m) = 45) → ((((¬ (v2 < 97) ∧ (v2 ≤ 122))) → (((v1 ≤ v2) → (gh_i ((m 3 3) + 4) ∧ k_Tape_signAt ((m 3 3) + 4) m))))))))) ∧ ∀ v3 : Int, v3 = (if (((¬ (v1 < 97) ∧ (v1 ≤ 122))) ∧ (((x_Tape_signAt ((m 3 3) + 2) m) = 45) ∧ (((¬ (v2 < 97) ∧ (v2 ≤ 122))) ∧ ((v1 ≤ v2) ∧ ((x_Tape_signAt ((m 3 3) + 4) m) = 93))))) then (1:Int) else 0) → gh_i ((m 3 3) + 5) ∧ Q 0 (gh_u (gh_u m 3 2 (if v3 = 0 then 5 else 3)) 3 4 ((m 3 3) + 5))
theorem s_Tape_lookAtClass {E : gh_E} {m : gh_M} {Q : Int → gh_M → Prop} (d : Nat) (hF : gh_F m) (h : w_Tape_lookAtClass m Q) : gh_C E gh_yTape_lookAtClass prog_10_method_10_code 4 none 9 (d + 1) [(2, 3)] m (fun r m1 => gh_F m1 ∧ Q r m1) := by
  refine gh_enter2 (L := [(0, 2, 3)]) (by decide +kernel) gh_rt9 (Nat.le_of_ble_eq_true rfl) rfl rfl ?_
  unfold w_Tape_lookAtClass at h
  refine gh_aload_n gd_Tape_lookAtClass_0 0 rfl (by decide) ?_
  refine gh_aload_n gd_Tape_lookAtClass_1 0 rfl (by decide) ?_
  refine gf_3_3 gd_Tape_lookAtClass_2 gh_k91 hF rfl ?_
  refine gh_iconst gd_Tape_lookAtClass_5 (gh_r0 rfl) ?_
  obtain ⟨q149, h⟩ := h
  refine gh_iadd gd_Tape_lookAtClass_6 q149 ?_
  obtain ⟨q150, h⟩ := h
  refine cv_Tape_signAt (d := d) gd_Tape_lookAtClass_7 gh_k594 hF (Nat.le_of_ble_eq_true rfl) (gh_C.pe (e_Tape_signAt d ((m 3 3) + 1) hF q150) ?_)
  refine gh_name (fun v1 hn => ?_)
  have h := h v1 hn
  refine gh_istore_n (L2 := [(1, 0, v1), (0, 2, 3)]) gd_Tape_lookAtClass_10 (by decide) rfl ?_
  refine gh_aload_n gd_Tape_lookAtClass_11 1 rfl (by decide) ?_
  refine gh_aload_n gd_Tape_lookAtClass_12 1 rfl (by decide) ?_
  refine gf_3_3 gd_Tape_lookAtClass_13 gh_k91 hF rfl ?_
  refine gh_iconst gd_Tape_lookAtClass_16 (gh_r0 rfl) ?_
  obtain ⟨q151, h⟩ := h
  refine gh_iadd gd_Tape_lookAtClass_17 q151 ?_
  obtain ⟨q152, h⟩ := h
  refine cv_Tape_signAt (d := d) gd_Tape_lookAtClass_18 gh_k594 hF (Nat.le_of_ble_eq_true rfl) (gh_C.pe (e_Tape_signAt d ((m 3 3) + 3) hF q152) ?_)
  refine gh_name (fun v2 hn => ?_)
  have h := h v2 hn
  refine gh_istore_n (L2 := [(2, 0, v2), (1, 0, v1), (0, 2, 3)]) gd_Tape_lookAtClass_21 (by decide) rfl ?_
  refine gh_iload_n gd_Tape_lookAtClass_22 1 rfl ?_
  refine cv_Tape_isSmall (d := d) gd_Tape_lookAtClass_23 gh_k609 (Nat.le_of_ble_eq_true rfl) (gh_C.pe (e_Tape_isSmall d v1) ?_)
  obtain ⟨hk, h⟩ := h
  have k157 : ∀ x158 : Int, x158 = (if (((¬ (v1 < 97) ∧ (v1 ≤ 122))) ∧ (((x_Tape_signAt ((m 3 3) + 2) m) = 45) ∧ (((¬ (v2 < 97) ∧ (v2 ≤ 122))) ∧ ((v1 ≤ v2) ∧ ((x_Tape_signAt ((m 3 3) + 4) m) = 93))))) then (1:Int) else 0) → gh_T E (gh_yTape_lookAtClass.cls, prog_10_method_10_code, 4, false, 9) (d + 1) 76 [(2, 0, v2), (1, 0, v1), (0, 2, 3)] [(0, x158)] m (fun r m1 => gh_F m1 ∧ Q r m1) := by
    rintro _ rfl
    refine gh_name (fun v3 hn => ?_)
    have h := h v3 hn
    refine gh_istore_n (L2 := [(3, 0, v3), (2, 0, v2), (1, 0, v1), (0, 2, 3)]) gd_Tape_lookAtClass_76 (by decide) rfl ?_
    refine gh_aload_n gd_Tape_lookAtClass_77 3 rfl (by decide) ?_
    refine gh_iload_n gd_Tape_lookAtClass_78 0 rfl ?_
    have k159 : ∀ x160 : Int, x160 = (if v3 = 0 then 5 else 3) → gh_T E (gh_yTape_lookAtClass.cls, prog_10_method_10_code, 4, false, 9) (d + 1) 87 [(3, 0, v3), (2, 0, v2), (1, 0, v1), (0, 2, 3)] [(0, x160), (2, 3)] m (fun r m1 => gh_F m1 ∧ Q r m1) := by
      rintro _ rfl
      refine pf_3_2 gd_Tape_lookAtClass_87 gh_k89 hF (fun hF => ?_)
      refine gh_aload_n gd_Tape_lookAtClass_90 3 rfl (by decide) ?_
      refine gh_aload_n gd_Tape_lookAtClass_91 3 rfl (by decide) ?_
      refine gf_3_3 gd_Tape_lookAtClass_92 gh_k91 hF (gh_u_i (by decide)) ?_
      refine gh_iconst gd_Tape_lookAtClass_95 (gh_r0 rfl) ?_
      obtain ⟨q161, h⟩ := h
      refine gh_iadd gd_Tape_lookAtClass_96 q161 ?_
      refine pf_3_4 gd_Tape_lookAtClass_97 gh_k92 hF (fun hF => ?_)
      exact gh_ret9 rfl gd_Tape_lookAtClass_100 ⟨hF, h⟩
    refine gh_zeq (tgt := 86) gd_Tape_lookAtClass_79 (by decide) (fun c162 => ?_) (fun c162 => ?_)
    · have hz : True := trivial
      refine gh_iconst gd_Tape_lookAtClass_86 (gh_r0 rfl) ?_
      exact k159 _ (by rw [if_pos c162])
    · have hz : True := trivial
      refine gh_iconst gd_Tape_lookAtClass_82 (gh_r0 rfl) ?_
      refine gh_goto (tgt := 87) gd_Tape_lookAtClass_83 (by decide) ?_
      exact k159 _ (by rw [if_neg c162])
  refine gh_beq (tgt := 75) gd_Tape_lookAtClass_26 (by decide) (fun c163 => ?_) (fun c163 => ?_)
  · have hz : True := trivial
    have hk := hk c163
    refine gh_aload_n gd_Tape_lookAtClass_29 2 rfl (by decide) ?_
    refine gh_aload_n gd_Tape_lookAtClass_30 2 rfl (by decide) ?_
    refine gf_3_3 gd_Tape_lookAtClass_31 gh_k91 hF rfl ?_
    refine gh_iconst gd_Tape_lookAtClass_34 (gh_r0 rfl) ?_
    obtain ⟨q153, hk⟩ := hk
    refine gh_iadd gd_Tape_lookAtClass_35 q153 ?_
    obtain ⟨q154, hk⟩ := hk
    refine cv_Tape_signAt (d := d) gd_Tape_lookAtClass_36 gh_k594 hF (Nat.le_of_ble_eq_true rfl) (gh_C.pe (e_Tape_signAt d ((m 3 3) + 2) hF q154) ?_)
    refine gh_bipush gd_Tape_lookAtClass_39 (by decide) (gh_r0 rfl) ?_
    refine gh_jne (tgt := 75) gd_Tape_lookAtClass_41 (by decide) (fun c164 => ?_) (fun c164 => ?_)
    · have hz : True := trivial
      have hk := hk c164
      refine gh_iload_n gd_Tape_lookAtClass_44 0 rfl ?_
      refine cv_Tape_isSmall (d := d) gd_Tape_lookAtClass_45 gh_k609 (Nat.le_of_ble_eq_true rfl) (gh_C.pe (e_Tape_isSmall d v2) ?_)
      refine gh_beq (tgt := 75) gd_Tape_lookAtClass_48 (by decide) (fun c165 => ?_) (fun c165 => ?_)
      · have hz : True := trivial
        have hk := hk c165
        refine gh_iload_n gd_Tape_lookAtClass_51 1 rfl ?_
        refine gh_iload_n gd_Tape_lookAtClass_52 0 rfl ?_
        refine gh_jgt (tgt := 75) gd_Tape_lookAtClass_53 (by decide) (fun c166 => ?_) (fun c166 => ?_)
        · have hz : True := trivial
          have hk := hk c166
          refine gh_aload_n gd_Tape_lookAtClass_56 2 rfl (by decide) ?_
          refine gh_aload_n gd_Tape_lookAtClass_57 2 rfl (by decide) ?_
          refine gf_3_3 gd_Tape_lookAtClass_58 gh_k91 hF rfl ?_
          refine gh_iconst gd_Tape_lookAtClass_61 (gh_r0 rfl) ?_
          obtain ⟨q155, hk⟩ := hk
          refine gh_iadd gd_Tape_lookAtClass_62 q155 ?_
          have q156 := hk
          refine cv_Tape_signAt (d := d) gd_Tape_lookAtClass_63 gh_k594 hF (Nat.le_of_ble_eq_true rfl) (gh_C.pe (e_Tape_signAt d ((m 3 3) + 4) hF q156) ?_)
          refine gh_bipush gd_Tape_lookAtClass_66 (by decide) (gh_r0 rfl) ?_
          refine gh_jne (tgt := 75) gd_Tape_lookAtClass_68 (by decide) (fun c167 => ?_) (fun c167 => ?_)
          · have hz : True := trivial
            refine gh_iconst gd_Tape_lookAtClass_71 (gh_r0 rfl) ?_
            refine gh_goto (tgt := 76) gd_Tape_lookAtClass_72 (by decide) ?_
            exact k157 _ (if_pos (c := (((¬ (v1 < 97) ∧ (v1 ≤ 122))) ∧ (((x_Tape_signAt ((m 3 3) + 2) m) = 45) ∧ (((¬ (v2 < 97) ∧ (v2 ≤ 122))) ∧ ((v1 ≤ v2) ∧ ((x_Tape_signAt ((m 3 3) + 4) m) = 93)))))) ⟨c163, ⟨c164, ⟨c165, ⟨c166, c167⟩⟩⟩⟩).symm
          · have hz : True := trivial
            refine gh_iconst gd_Tape_lookAtClass_75 (gh_r0 rfl) ?_
            exact k157 _ (if_neg (c := (((¬ (v1 < 97) ∧ (v1 ≤ 122))) ∧ (((x_Tape_signAt ((m 3 3) + 2) m) = 45) ∧ (((¬ (v2 < 97) ∧ (v2 ≤ 122))) ∧ ((v1 ≤ v2) ∧ ((x_Tape_signAt ((m 3 3) + 4) m) = 93)))))) (fun z => (fun z => (fun z => (fun z => c167 z.2) z.2) z.2) z.2)).symm
        · have hz : True := trivial
          refine gh_iconst gd_Tape_lookAtClass_75 (gh_r0 rfl) ?_
          exact k157 _ (if_neg (c := (((¬ (v1 < 97) ∧ (v1 ≤ 122))) ∧ (((x_Tape_signAt ((m 3 3) + 2) m) = 45) ∧ (((¬ (v2 < 97) ∧ (v2 ≤ 122))) ∧ ((v1 ≤ v2) ∧ ((x_Tape_signAt ((m 3 3) + 4) m) = 93)))))) (fun z => (fun z => (fun z => (fun z => c166 z.1) z.2) z.2) z.2)).symm
      · have hz : True := trivial
        refine gh_iconst gd_Tape_lookAtClass_75 (gh_r0 rfl) ?_
        exact k157 _ (if_neg (c := (((¬ (v1 < 97) ∧ (v1 ≤ 122))) ∧ (((x_Tape_signAt ((m 3 3) + 2) m) = 45) ∧ (((¬ (v2 < 97) ∧ (v2 ≤ 122))) ∧ ((v1 ≤ v2) ∧ ((x_Tape_signAt ((m 3 3) + 4) m) = 93)))))) (fun z => (fun z => (fun z => c165 z.1) z.2) z.2)).symm
    · have hz : True := trivial
      refine gh_iconst gd_Tape_lookAtClass_75 (gh_r0 rfl) ?_
      exact k157 _ (if_neg (c := (((¬ (v1 < 97) ∧ (v1 ≤ 122))) ∧ (((x_Tape_signAt ((m 3 3) + 2) m) = 45) ∧ (((¬ (v2 < 97) ∧ (v2 ≤ 122))) ∧ ((v1 ≤ v2) ∧ ((x_Tape_signAt ((m 3 3) + 4) m) = 93)))))) (fun z => (fun z => c164 z.1) z.2)).symm
  · have hz : True := trivial
    refine gh_iconst gd_Tape_lookAtClass_75 (gh_r0 rfl) ?_
    exact k157 _ (if_neg (c := (((¬ (v1 < 97) ∧ (v1 ≤ 122))) ∧ (((x_Tape_signAt ((m 3 3) + 2) m) = 45) ∧ (((¬ (v2 < 97) ∧ (v2 ≤ 122))) ∧ ((v1 ≤ v2) ∧ ((x_Tape_signAt ((m 3 3) + 4) m) = 93)))))) (fun z => c163 z.1)).symm
def f_Tape_advance_8 (Q : Int → gh_M → Prop) (K8 : gh_M → Prop) (m : gh_M) : Prop := ∃ J45 : gh_M → Prop, (∀ (m : gh_M), J45 m → k_Tape_signAt (m 3 3) m ∧ ∀ v1 : Int, v1 = x_Tape_signAt (m 3 3) m → gh_i ((m 3 3) + 1) ∧ ((v1 = (-1) → Q 0 (gh_u (gh_u (gh_u m 3 4 ((m 3 3) + 1)) 3 2 4) 3 4 (m 3 3))) ∧ (¬ (v1 = (-1)) → ∃ J104 : Prop, (J104 → ((v1 = 39 → w_Tape_lookAtQuote (gh_u m 3 4 ((m 3 3) + 1)) (fun _ m173 => Q 0 m173)) ∧ (¬ (v1 = 39) → ((v1 = 91 → w_Tape_lookAtClass (gh_u m 3 4 ((m 3 3) + 1)) (fun _ m176 => Q 0 m176)) ∧ (¬ (v1 = 91) → Q 0 (gh_u (gh_u m 3 4 ((m 3 3) + 1)) 3 2 (if p_Tape_isMark v1 then v1 else 5))))))) ∧ (((¬ (v1 < 65) ∧ (v1 ≤ 90)) → w_Tape_lookAtName (gh_u m 3 4 ((m 3 3) + 1)) (fun _ m183 => Q 0 m183)) ∧ (¬ (¬ (v1 < 65) ∧ (v1 ≤ 90)) → J104))))) ∧ ((((m 3 3) < (m 3 1)) → (k_Tape_signAt (m 3 3) m))) ∧ (((((m 3 3) < (m 3 1)) ∧ ((x_Tape_signAt (m 3 3) m) = 32)) → gh_i ((m 3 3) + 1) ∧ K8 (gh_u m 3 3 ((m 3 3) + 1))) ∧ (¬ (((m 3 3) < (m 3 1)) ∧ ((x_Tape_signAt (m 3 3) m) = 32)) → J45 m))
def w_Tape_advance (m : gh_M) (Q : Int → gh_M → Prop) : Prop := gh_M0 (fun K8 m => f_Tape_advance_8 Q K8 m) (gh_u m 3 3 (m 3 4))
theorem b_Tape_advance_8 {E : gh_E} {Q : Int → gh_M → Prop} {K8 : gh_M → Prop} (d : Nat) (hK : ∀ (m : gh_M), gh_F m → K8 m → gh_T E (gh_yTape_advance.cls, prog_10_method_7_code, 2, false, 9) (d + 2) 8 [(0, 2, 3)] [] m (fun r m1 => gh_F m1 ∧ Q r m1)) (m : gh_M) (hF : gh_F m) (h : f_Tape_advance_8 Q K8 m) : gh_T E (gh_yTape_advance.cls, prog_10_method_7_code, 2, false, 9) (d + 2) 8 [(0, 2, 3)] [] m (fun r m1 => gh_F m1 ∧ Q r m1) := by
  have hK8 := hK
  unfold f_Tape_advance_8 at h
  refine gh_aload_n gd_Tape_advance_8 0 rfl (by decide) ?_
  refine gf_3_3 gd_Tape_advance_9 gh_k91 hF rfl ?_
  refine gh_aload_n gd_Tape_advance_12 0 rfl (by decide) ?_
  refine gf_3_1 gd_Tape_advance_13 gh_k87 hF rfl ?_
  obtain ⟨J45, hJ45, h⟩ := h
  have hJ45 : ∀ (m : gh_M), gh_F m → J45 m → gh_T E (gh_yTape_advance.cls, prog_10_method_7_code, 2, false, 9) (d + 2) 45 [(0, 2, 3)] [] m (fun r m1 => gh_F m1 ∧ Q r m1) := by
    intro m hF hj
    have h := hJ45 m hj
    refine gh_aload_n gd_Tape_advance_45 0 rfl (by decide) ?_
    refine gh_aload_n gd_Tape_advance_46 0 rfl (by decide) ?_
    refine gf_3_3 gd_Tape_advance_47 gh_k91 hF rfl ?_
    obtain ⟨q168, h⟩ := h
    refine cv_Tape_signAt (d := d + 1) gd_Tape_advance_50 gh_k594 hF (Nat.le_of_ble_eq_true rfl) (gh_C.pe (e_Tape_signAt (d + 1) (m 3 3) hF q168) ?_)
    refine gh_name (fun v1 hn => ?_)
    have h := h v1 hn
    refine gh_istore_n (L2 := [(1, 0, v1), (0, 2, 3)]) gd_Tape_advance_53 (by decide) rfl ?_
    refine gh_aload_n gd_Tape_advance_54 1 rfl (by decide) ?_
    refine gh_aload_n gd_Tape_advance_55 1 rfl (by decide) ?_
    refine gf_3_3 gd_Tape_advance_56 gh_k91 hF rfl ?_
    refine gh_iconst gd_Tape_advance_59 (gh_r0 rfl) ?_
    obtain ⟨q169, h⟩ := h
    refine gh_iadd gd_Tape_advance_60 q169 ?_
    refine pf_3_4 gd_Tape_advance_61 gh_k92 hF (fun hF => ?_)
    refine gh_iload_n gd_Tape_advance_64 0 rfl ?_
    refine gh_iconst gd_Tape_advance_65 (gh_r0 rfl) ?_
    obtain ⟨hA, hB⟩ := h
    refine gh_jne (tgt := 85) gd_Tape_advance_66 (by decide) (fun c170 => ?_) (fun c170 => ?_)
    · have h := hA c170
      refine gh_aload_n gd_Tape_advance_69 1 rfl (by decide) ?_
      refine gh_iconst gd_Tape_advance_70 (gh_r0 rfl) ?_
      refine pf_3_2 gd_Tape_advance_71 gh_k89 hF (fun hF => ?_)
      refine gh_aload_n gd_Tape_advance_74 1 rfl (by decide) ?_
      refine gh_aload_n gd_Tape_advance_75 1 rfl (by decide) ?_
      refine gf_3_3 gd_Tape_advance_76 gh_k91 hF ((gh_u_i (by decide)).trans (gh_u_i (by decide))) ?_
      refine pf_3_4 gd_Tape_advance_79 gh_k92 hF (fun hF => ?_)
      refine gh_goto (tgt := 146) gd_Tape_advance_82 (by decide) ?_
      exact gh_ret9 rfl gd_Tape_advance_146 ⟨hF, h⟩
    · have h := hB c170
      refine gh_iload_n gd_Tape_advance_85 0 rfl ?_
      refine gh_bipush gd_Tape_advance_86 (by decide) (gh_r0 rfl) ?_
      obtain ⟨J104, hJ104, h⟩ := h
      have hJ104 : gh_F (gh_u m 3 4 ((m 3 3) + 1)) → J104 → gh_T E (gh_yTape_advance.cls, prog_10_method_7_code, 2, false, 9) (d + 2) 104 [(0, 2, 3), (1, 0, v1)] [] (gh_u m 3 4 ((m 3 3) + 1)) (fun r m1 => gh_F m1 ∧ Q r m1) := by
        intro hF hj
        have h := hJ104 hj
        refine gh_iload_n gd_Tape_advance_104 1 rfl ?_
        refine gh_bipush gd_Tape_advance_105 (by decide) (gh_r0 rfl) ?_
        obtain ⟨hA, hB⟩ := h
        refine gh_jne (tgt := 117) gd_Tape_advance_107 (by decide) (fun c171 => ?_) (fun c171 => ?_)
        · have h := hA c171
          refine gh_aload_n gd_Tape_advance_110 0 rfl (by decide) ?_
          refine cv_Tape_lookAtQuote (d := d + 1) gd_Tape_advance_111 gh_k605 hF (Nat.le_of_ble_eq_true rfl) (gh_C.mono (s_Tape_lookAtQuote d hF h) (fun r172 m173 hq => ?_))
          obtain ⟨hF, h⟩ := hq
          refine gh_goto (tgt := 146) gd_Tape_advance_114 (by decide) ?_
          exact gh_ret9 rfl gd_Tape_advance_146 ⟨hF, h⟩
        · have h := hB c171
          refine gh_iload_n gd_Tape_advance_117 1 rfl ?_
          refine gh_bipush gd_Tape_advance_118 (by decide) (gh_r0 rfl) ?_
          obtain ⟨hA, hB⟩ := h
          refine gh_jne (tgt := 130) gd_Tape_advance_120 (by decide) (fun c174 => ?_) (fun c174 => ?_)
          · have h := hA c174
            refine gh_aload_n gd_Tape_advance_123 0 rfl (by decide) ?_
            refine cv_Tape_lookAtClass (d := d + 1) gd_Tape_advance_124 gh_k612 hF (Nat.le_of_ble_eq_true rfl) (gh_C.mono (s_Tape_lookAtClass d hF h) (fun r175 m176 hq => ?_))
            obtain ⟨hF, h⟩ := hq
            refine gh_goto (tgt := 146) gd_Tape_advance_127 (by decide) ?_
            exact gh_ret9 rfl gd_Tape_advance_146 ⟨hF, h⟩
          · have h := hB c174
            refine gh_aload_n gd_Tape_advance_130 0 rfl (by decide) ?_
            refine gh_iload_n gd_Tape_advance_131 1 rfl ?_
            refine cv_Tape_isMark (d := d + 1) gd_Tape_advance_132 gh_k616 (Nat.le_of_ble_eq_true rfl) (gh_C.pe (e_Tape_isMark (d + 1) v1) ?_)
            have k177 : ∀ x178 : Int, x178 = (if p_Tape_isMark v1 then v1 else 5) → gh_T E (gh_yTape_advance.cls, prog_10_method_7_code, 2, false, 9) (d + 2) 143 [(0, 2, 3), (1, 0, v1)] [(0, x178), (2, 3)] (gh_u m 3 4 ((m 3 3) + 1)) (fun r m1 => gh_F m1 ∧ Q r m1) := by
              rintro _ rfl
              refine pf_3_2 gd_Tape_advance_143 gh_k89 hF (fun hF => ?_)
              exact gh_ret9 rfl gd_Tape_advance_146 ⟨hF, h⟩
            refine gh_beq (tgt := 142) gd_Tape_advance_135 (by decide) (fun c179 => ?_) (fun c179 => ?_)
            · have hz : True := trivial
              refine gh_iload_n gd_Tape_advance_138 1 rfl ?_
              refine gh_goto (tgt := 143) gd_Tape_advance_139 (by decide) ?_
              exact k177 _ (by rw [if_pos c179])
            · have hz : True := trivial
              refine gh_iconst gd_Tape_advance_142 (gh_r0 rfl) ?_
              exact k177 _ (by rw [if_neg c179])
      obtain ⟨hA, hB⟩ := h
      have k180 : (¬ (v1 < 65) ∧ (v1 ≤ 90)) → gh_T E (gh_yTape_advance.cls, prog_10_method_7_code, 2, false, 9) (d + 2) 97 [(1, 0, v1), (0, 2, 3)] [] (gh_u m 3 4 ((m 3 3) + 1)) (fun r m1 => gh_F m1 ∧ Q r m1) := by
        intro c
        have h := hA c
        refine gh_aload_n gd_Tape_advance_97 1 rfl (by decide) ?_
        refine cv_Tape_lookAtName (d := d + 1) gd_Tape_advance_98 gh_k598 hF (Nat.le_of_ble_eq_true rfl) (gh_C.mono (s_Tape_lookAtName d hF h) (fun r182 m183 hq => ?_))
        obtain ⟨hF, h⟩ := hq
        refine gh_goto (tgt := 146) gd_Tape_advance_101 (by decide) ?_
        exact gh_ret9 rfl gd_Tape_advance_146 ⟨hF, h⟩
      have k181 : ¬ (¬ (v1 < 65) ∧ (v1 ≤ 90)) → gh_T E (gh_yTape_advance.cls, prog_10_method_7_code, 2, false, 9) (d + 2) 104 [(1, 0, v1), (0, 2, 3)] [] (gh_u m 3 4 ((m 3 3) + 1)) (fun r m1 => gh_F m1 ∧ Q r m1) := by
        intro c
        have h := hB c
        refine gh_pick (L2 := [(0, 2, 3), (1, 0, v1)]) [1, 0] rfl ?_
        exact hJ104 hF h
      refine gh_jlt (tgt := 104) gd_Tape_advance_88 (by decide) (fun c184 => ?_) (fun c184 => ?_)
      · have hz : True := trivial
        exact k181 (fun z => z.1 c184)
      · have hz : True := trivial
        refine gh_iload_n gd_Tape_advance_91 0 rfl ?_
        refine gh_bipush gd_Tape_advance_92 (by decide) (gh_r0 rfl) ?_
        refine gh_jgt (tgt := 104) gd_Tape_advance_94 (by decide) (fun c185 => ?_) (fun c185 => ?_)
        · have hz : True := trivial
          exact k180 ⟨c184, c185⟩
        · have hz : True := trivial
          exact k181 (fun z => c185 z.2)
  obtain ⟨hk, hA, hB⟩ := h
  have k187 : (((m 3 3) < (m 3 1)) ∧ ((x_Tape_signAt (m 3 3) m) = 32)) → gh_T E (gh_yTape_advance.cls, prog_10_method_7_code, 2, false, 9) (d + 2) 32 [(0, 2, 3)] [] m (fun r m1 => gh_F m1 ∧ Q r m1) := by
    intro c
    have h := hA c
    refine gh_aload_n gd_Tape_advance_32 0 rfl (by decide) ?_
    refine gh_dup gd_Tape_advance_33 (by decide) ?_
    refine gf_3_3 gd_Tape_advance_34 gh_k91 hF rfl ?_
    refine gh_iconst gd_Tape_advance_37 (gh_r0 rfl) ?_
    obtain ⟨q189, h⟩ := h
    refine gh_iadd gd_Tape_advance_38 q189 ?_
    refine pf_3_3 gd_Tape_advance_39 gh_k91 hF (fun hF => ?_)
    refine gh_goto (tgt := 8) gd_Tape_advance_42 (by decide) ?_
    exact hK8 (gh_u m 3 3 ((m 3 3) + 1)) hF h
  have k188 : ¬ (((m 3 3) < (m 3 1)) ∧ ((x_Tape_signAt (m 3 3) m) = 32)) → gh_T E (gh_yTape_advance.cls, prog_10_method_7_code, 2, false, 9) (d + 2) 45 [(0, 2, 3)] [] m (fun r m1 => gh_F m1 ∧ Q r m1) := by
    intro c
    have h := hB c
    exact hJ45 m hF h
  refine gh_jge (tgt := 45) gd_Tape_advance_16 (by decide) (fun c190 => ?_) (fun c190 => ?_)
  · have hz : True := trivial
    have hk := hk c190
    refine gh_aload_n gd_Tape_advance_19 0 rfl (by decide) ?_
    refine gh_aload_n gd_Tape_advance_20 0 rfl (by decide) ?_
    refine gf_3_3 gd_Tape_advance_21 gh_k91 hF rfl ?_
    have q186 := hk
    refine cv_Tape_signAt (d := d + 1) gd_Tape_advance_24 gh_k594 hF (Nat.le_of_ble_eq_true rfl) (gh_C.pe (e_Tape_signAt (d + 1) (m 3 3) hF q186) ?_)
    refine gh_bipush gd_Tape_advance_27 (by decide) (gh_r0 rfl) ?_
    refine gh_jne (tgt := 45) gd_Tape_advance_29 (by decide) (fun c191 => ?_) (fun c191 => ?_)
    · have hz : True := trivial
      exact k187 ⟨c190, c191⟩
    · have hz : True := trivial
      exact k188 (fun z => c191 z.2)
  · have hz : True := trivial
    exact k188 (fun z => c190 z.1)
theorem s_Tape_advance {E : gh_E} {m : gh_M} {Q : Int → gh_M → Prop} (d : Nat) (hF : gh_F m) (h : w_Tape_advance m Q) : gh_C E gh_yTape_advance prog_10_method_7_code 2 none 9 (d + 2) [(2, 3)] m (fun r m1 => gh_F m1 ∧ Q r m1) := by
  refine gh_enter2 (L := [(0, 2, 3)]) (by decide +kernel) gh_rt9 (Nat.le_of_ble_eq_true rfl) rfl rfl ?_
  unfold w_Tape_advance at h
  refine gh_aload_n gd_Tape_advance_0 0 rfl (by decide) ?_
  refine gh_aload_n gd_Tape_advance_1 0 rfl (by decide) ?_
  refine gf_3_4 gd_Tape_advance_2 gh_k92 hF rfl ?_
  refine pf_3_3 gd_Tape_advance_5 gh_k91 hF (fun hF => ?_)
  exact gh_M0_sound (T := fun m => gh_T E (gh_yTape_advance.cls, prog_10_method_7_code, 2, false, 9) (d + 2) 8 [(0, 2, 3)] [] m (fun r m1 => gh_F m1 ∧ Q r m1)) (fun m => gh_F m) (fun K8 m hK hF h => b_Tape_advance_8 d hK m hF h) (gh_u m 3 3 (m 3 4)) hF h
def w_Reader_canStand (m : gh_M) (Q : Int → Prop) : Prop := (((m 5 4) = 0 → Q (if (((m 3 2) = 1) ∨ (((m 3 2) = 4) ∧ (¬ ((m 6 1) ≤ 0)))) then (1:Int) else 0)) ∧ (¬ ((m 5 4) = 0) → (((m 5 4) = 1 → Q (if ((m 3 2) = 58) then (1:Int) else 0)) ∧ (¬ ((m 5 4) = 1) → (((m 3 2) = 1 ∨ (m 3 2) = 2 ∨ (m 3 2) = 3 ∨ (m 3 2) = 40 ∨ (m 3 2) = 124 → Q 1) ∧ (((m 3 2) = 41 → Q (if (¬ ((m 5 5) ≤ 0)) then (1:Int) else 0)) ∧ (((m 3 2) = 42 ∨ (m 3 2) = 43 ∨ (m 3 2) = 63 → Q (if (¬ ((m 5 6) ≤ 0)) then (1:Int) else 0)) ∧ (((m 3 2) = 59 → Q (if ((m 5 5) = 0) then (1:Int) else 0)) ∧ (¬ ((m 3 2) = 1 ∨ (m 3 2) = 2 ∨ (m 3 2) = 3 ∨ (m 3 2) = 40 ∨ (m 3 2) = 124) → ¬ ((m 3 2) = 41) → ¬ ((m 3 2) = 42 ∨ (m 3 2) = 43 ∨ (m 3 2) = 63) → ¬ ((m 3 2) = 59) → Q 0)))))))))
theorem s_Reader_canStand {E : gh_E} {m : gh_M} {Q : Int → Prop} (d : Nat) (hF : gh_F m) (h : w_Reader_canStand m Q) : gh_C E gh_yReader_canStand prog_9_method_5_code 1 (some .boolean) 8 (d + 0) [(2, 5)] m (fun r m1 => m1 = m ∧ Q r) := by
  refine gh_enter2 (L := [(0, 2, 5)]) (by decide +kernel) gh_rt8 (Nat.le_of_ble_eq_true rfl) rfl rfl ?_
  unfold w_Reader_canStand at h
  refine gh_aload_n gd_Reader_canStand_0 0 rfl (by decide) ?_
  refine gf_5_4 gd_Reader_canStand_1 gh_k148 hF rfl ?_
  obtain ⟨hA, hB⟩ := h
  refine gh_zne (tgt := 45) gd_Reader_canStand_4 (by decide) (fun c192 => ?_) (fun c192 => ?_)
  · have h := hA c192
    refine gh_aload_n gd_Reader_canStand_7 0 rfl (by decide) ?_
    refine gf_5_3 gd_Reader_canStand_8 gh_k147 hF ?_
    refine gf_3_2 gd_Reader_canStand_11 gh_k88 hF rfl ?_
    refine gh_iconst gd_Reader_canStand_14 (gh_r0 rfl) ?_
    have k193 : ∀ x194 : Int, x194 = (if (((m 3 2) = 1) ∨ (((m 3 2) = 4) ∧ (¬ ((m 6 1) ≤ 0)))) then (1:Int) else 0) → gh_T E (gh_yReader_canStand.cls, prog_9_method_5_code, 1, false, 8) (d + 0) 44 [(0, 2, 5)] [(0, x194)] m (fun r m1 => m1 = m ∧ Q r) := by
      rintro _ rfl
      exact gh_ret8 rfl gd_Reader_canStand_44 gh_ib01 ⟨rfl, h⟩
    refine gh_jeq (tgt := 39) gd_Reader_canStand_15 (by decide) (fun c195 => ?_) (fun c195 => ?_)
    · have hz : True := trivial
      refine gh_iconst gd_Reader_canStand_39 (gh_r0 rfl) ?_
      refine gh_goto (tgt := 44) gd_Reader_canStand_40 (by decide) ?_
      exact k193 _ (if_pos (c := (((m 3 2) = 1) ∨ (((m 3 2) = 4) ∧ (¬ ((m 6 1) ≤ 0))))) (Or.inl c195)).symm
    · have hz : True := trivial
      refine gh_aload_n gd_Reader_canStand_18 0 rfl (by decide) ?_
      refine gf_5_3 gd_Reader_canStand_19 gh_k147 hF ?_
      refine gf_3_2 gd_Reader_canStand_22 gh_k88 hF rfl ?_
      refine gh_iconst gd_Reader_canStand_25 (gh_r0 rfl) ?_
      refine gh_jne (tgt := 43) gd_Reader_canStand_26 (by decide) (fun c196 => ?_) (fun c196 => ?_)
      · have hz : True := trivial
        refine gh_aload_n gd_Reader_canStand_29 0 rfl (by decide) ?_
        refine gf_5_0 gd_Reader_canStand_30 gh_k141 hF ?_
        refine gf_6_1 gd_Reader_canStand_33 gh_k119 hF rfl ?_
        refine gh_zle (tgt := 43) gd_Reader_canStand_36 (by decide) (fun c197 => ?_) (fun c197 => ?_)
        · have hz : True := trivial
          refine gh_iconst gd_Reader_canStand_43 (gh_r0 rfl) ?_
          exact k193 _ (if_neg (c := (((m 3 2) = 1) ∨ (((m 3 2) = 4) ∧ (¬ ((m 6 1) ≤ 0))))) (fun z => z.elim c195 (fun z => (not_not_intro c197) z.2))).symm
        · have hz : True := trivial
          refine gh_iconst gd_Reader_canStand_39 (gh_r0 rfl) ?_
          refine gh_goto (tgt := 44) gd_Reader_canStand_40 (by decide) ?_
          exact k193 _ (if_pos (c := (((m 3 2) = 1) ∨ (((m 3 2) = 4) ∧ (¬ ((m 6 1) ≤ 0))))) (Or.inr ⟨c196, c197⟩)).symm
      · have hz : True := trivial
        refine gh_iconst gd_Reader_canStand_43 (gh_r0 rfl) ?_
        exact k193 _ (if_neg (c := (((m 3 2) = 1) ∨ (((m 3 2) = 4) ∧ (¬ ((m 6 1) ≤ 0))))) (fun z => z.elim c195 (fun z => c196 z.1))).symm
  · have h := hB c192
    refine gh_aload_n gd_Reader_canStand_45 0 rfl (by decide) ?_
    refine gf_5_4 gd_Reader_canStand_46 gh_k148 hF rfl ?_
    refine gh_iconst gd_Reader_canStand_49 (gh_r0 rfl) ?_
    obtain ⟨hA, hB⟩ := h
    refine gh_jne (tgt := 71) gd_Reader_canStand_50 (by decide) (fun c198 => ?_) (fun c198 => ?_)
    · have h := hA c198
      refine gh_aload_n gd_Reader_canStand_53 0 rfl (by decide) ?_
      refine gf_5_3 gd_Reader_canStand_54 gh_k147 hF ?_
      refine gf_3_2 gd_Reader_canStand_57 gh_k88 hF rfl ?_
      refine gh_bipush gd_Reader_canStand_60 (by decide) (gh_r0 rfl) ?_
      have k199 : ∀ x200 : Int, x200 = (if ((m 3 2) = 58) then (1:Int) else 0) → gh_T E (gh_yReader_canStand.cls, prog_9_method_5_code, 1, false, 8) (d + 0) 70 [(0, 2, 5)] [(0, x200)] m (fun r m1 => m1 = m ∧ Q r) := by
        rintro _ rfl
        exact gh_ret8 rfl gd_Reader_canStand_70 gh_ib01 ⟨rfl, h⟩
      refine gh_jne (tgt := 69) gd_Reader_canStand_62 (by decide) (fun c201 => ?_) (fun c201 => ?_)
      · have hz : True := trivial
        refine gh_iconst gd_Reader_canStand_65 (gh_r0 rfl) ?_
        refine gh_goto (tgt := 70) gd_Reader_canStand_66 (by decide) ?_
        exact k199 _ (if_pos (c := ((m 3 2) = 58)) c201).symm
      · have hz : True := trivial
        refine gh_iconst gd_Reader_canStand_69 (gh_r0 rfl) ?_
        exact k199 _ (if_neg (c := ((m 3 2) = 58)) c201).symm
    · have h := hB c198
      refine gh_aload_n gd_Reader_canStand_71 0 rfl (by decide) ?_
      refine gf_5_3 gd_Reader_canStand_72 gh_k147 hF ?_
      refine gf_3_2 gd_Reader_canStand_75 gh_k88 hF rfl ?_
      obtain ⟨hA, h⟩ := h
      by_cases c202 : (m 3 2) = 1 ∨ (m 3 2) = 2 ∨ (m 3 2) = 3 ∨ (m 3 2) = 40 ∨ (m 3 2) = 124
      · have h := hA c202
        have k203 : gh_T E (gh_yReader_canStand.cls, prog_9_method_5_code, 1, false, 8) (d + 0) 168 [(0, 2, 5)] [] m (fun r m1 => m1 = m ∧ Q r) := by
          refine gh_iconst gd_Reader_canStand_168 (gh_r0 rfl) ?_
          exact gh_ret8 rfl gd_Reader_canStand_169 (by decide) ⟨rfl, h⟩
        rcases c202 with e | e | e | e | e
        · exact gh_lookup (tgt := 168) gd_Reader_canStand_78 (by decide) (by rw [e]; decide) k203
        · exact gh_lookup (tgt := 168) gd_Reader_canStand_78 (by decide) (by rw [e]; decide) k203
        · exact gh_lookup (tgt := 168) gd_Reader_canStand_78 (by decide) (by rw [e]; decide) k203
        · exact gh_lookup (tgt := 168) gd_Reader_canStand_78 (by decide) (by rw [e]; decide) k203
        · exact gh_lookup (tgt := 168) gd_Reader_canStand_78 (by decide) (by rw [e]; decide) k203
      obtain ⟨hA, h⟩ := h
      by_cases c204 : (m 3 2) = 41
      · have h := hA c204
        refine gh_lookup (tgt := 183) gd_Reader_canStand_78 (by decide) (by rw [c204]; decide) ?_
        refine gh_aload_n gd_Reader_canStand_183 0 rfl (by decide) ?_
        refine gf_5_5 gd_Reader_canStand_184 gh_k149 hF rfl ?_
        have k205 : ∀ x206 : Int, x206 = (if (¬ ((m 5 5) ≤ 0)) then (1:Int) else 0) → gh_T E (gh_yReader_canStand.cls, prog_9_method_5_code, 1, false, 8) (d + 0) 195 [(0, 2, 5)] [(0, x206)] m (fun r m1 => m1 = m ∧ Q r) := by
          rintro _ rfl
          exact gh_ret8 rfl gd_Reader_canStand_195 gh_ib01 ⟨rfl, h⟩
        refine gh_zle (tgt := 194) gd_Reader_canStand_187 (by decide) (fun c207 => ?_) (fun c207 => ?_)
        · have hz : True := trivial
          refine gh_iconst gd_Reader_canStand_194 (gh_r0 rfl) ?_
          exact k205 _ (if_neg (c := (¬ ((m 5 5) ≤ 0))) (not_not_intro c207)).symm
        · have hz : True := trivial
          refine gh_iconst gd_Reader_canStand_190 (gh_r0 rfl) ?_
          refine gh_goto (tgt := 195) gd_Reader_canStand_191 (by decide) ?_
          exact k205 _ (if_pos (c := (¬ ((m 5 5) ≤ 0))) c207).symm
      obtain ⟨hA, h⟩ := h
      by_cases c208 : (m 3 2) = 42 ∨ (m 3 2) = 43 ∨ (m 3 2) = 63
      · have h := hA c208
        have k209 : gh_T E (gh_yReader_canStand.cls, prog_9_method_5_code, 1, false, 8) (d + 0) 196 [(0, 2, 5)] [] m (fun r m1 => m1 = m ∧ Q r) := by
          refine gh_aload_n gd_Reader_canStand_196 0 rfl (by decide) ?_
          refine gf_5_6 gd_Reader_canStand_197 gh_k150 hF rfl ?_
          have k210 : ∀ x211 : Int, x211 = (if (¬ ((m 5 6) ≤ 0)) then (1:Int) else 0) → gh_T E (gh_yReader_canStand.cls, prog_9_method_5_code, 1, false, 8) (d + 0) 208 [(0, 2, 5)] [(0, x211)] m (fun r m1 => m1 = m ∧ Q r) := by
            rintro _ rfl
            exact gh_ret8 rfl gd_Reader_canStand_208 gh_ib01 ⟨rfl, h⟩
          refine gh_zle (tgt := 207) gd_Reader_canStand_200 (by decide) (fun c212 => ?_) (fun c212 => ?_)
          · have hz : True := trivial
            refine gh_iconst gd_Reader_canStand_207 (gh_r0 rfl) ?_
            exact k210 _ (if_neg (c := (¬ ((m 5 6) ≤ 0))) (not_not_intro c212)).symm
          · have hz : True := trivial
            refine gh_iconst gd_Reader_canStand_203 (gh_r0 rfl) ?_
            refine gh_goto (tgt := 208) gd_Reader_canStand_204 (by decide) ?_
            exact k210 _ (if_pos (c := (¬ ((m 5 6) ≤ 0))) c212).symm
        rcases c208 with e | e | e
        · exact gh_lookup (tgt := 196) gd_Reader_canStand_78 (by decide) (by rw [e]; decide) k209
        · exact gh_lookup (tgt := 196) gd_Reader_canStand_78 (by decide) (by rw [e]; decide) k209
        · exact gh_lookup (tgt := 196) gd_Reader_canStand_78 (by decide) (by rw [e]; decide) k209
      obtain ⟨hA, h⟩ := h
      by_cases c213 : (m 3 2) = 59
      · have h := hA c213
        refine gh_lookup (tgt := 170) gd_Reader_canStand_78 (by decide) (by rw [c213]; decide) ?_
        refine gh_aload_n gd_Reader_canStand_170 0 rfl (by decide) ?_
        refine gf_5_5 gd_Reader_canStand_171 gh_k149 hF rfl ?_
        have k214 : ∀ x215 : Int, x215 = (if ((m 5 5) = 0) then (1:Int) else 0) → gh_T E (gh_yReader_canStand.cls, prog_9_method_5_code, 1, false, 8) (d + 0) 182 [(0, 2, 5)] [(0, x215)] m (fun r m1 => m1 = m ∧ Q r) := by
          rintro _ rfl
          exact gh_ret8 rfl gd_Reader_canStand_182 gh_ib01 ⟨rfl, h⟩
        refine gh_zne (tgt := 181) gd_Reader_canStand_174 (by decide) (fun c216 => ?_) (fun c216 => ?_)
        · have hz : True := trivial
          refine gh_iconst gd_Reader_canStand_177 (gh_r0 rfl) ?_
          refine gh_goto (tgt := 182) gd_Reader_canStand_178 (by decide) ?_
          exact k214 _ (if_pos (c := ((m 5 5) = 0)) c216).symm
        · have hz : True := trivial
          refine gh_iconst gd_Reader_canStand_181 (gh_r0 rfl) ?_
          exact k214 _ (if_neg (c := ((m 5 5) = 0)) c216).symm
      have n217 : ¬ ((m 3 2) = 1) := fun z => c202 (by simp [z])
      have n218 : ¬ ((m 3 2) = 2) := fun z => c202 (by simp [z])
      have n219 : ¬ ((m 3 2) = 3) := fun z => c202 (by simp [z])
      have n220 : ¬ ((m 3 2) = 40) := fun z => c202 (by simp [z])
      have n221 : ¬ ((m 3 2) = 124) := fun z => c202 (by simp [z])
      have n222 : ¬ ((m 3 2) = 41) := c204
      have n223 : ¬ ((m 3 2) = 42) := fun z => c208 (by simp [z])
      have n224 : ¬ ((m 3 2) = 43) := fun z => c208 (by simp [z])
      have n225 : ¬ ((m 3 2) = 63) := fun z => c208 (by simp [z])
      have n226 : ¬ ((m 3 2) = 59) := c213
      refine gh_lookup (tgt := 209) gd_Reader_canStand_78 (by decide) (by simp [Op.lookupswitch.offset]; rw [if_neg (Ne.symm n217), if_neg (Ne.symm n218), if_neg (Ne.symm n219), if_neg (Ne.symm n220), if_neg (Ne.symm n222), if_neg (Ne.symm n223), if_neg (Ne.symm n224), if_neg (Ne.symm n226), if_neg (Ne.symm n225), if_neg (Ne.symm n221)]; rfl) ?_
      have h := h c202 c204 c208 c213
      refine gh_iconst gd_Reader_canStand_209 (gh_r0 rfl) ?_
      exact gh_ret8 rfl gd_Reader_canStand_210 (by decide) ⟨rfl, h⟩
def f_Tape_key_9 (Q : Int → Prop) (m : gh_M) (K9 : Int → Int → Prop) (v1 : Int) (v2 : Int) : Prop := ((v2 < (m 3 3) → Q v1) ∧ (¬ (v2 < (m 3 3)) → gh_i (v1 * 128) ∧ k_Tape_signAt v2 m ∧ gh_i ((v1 * 128) + (x_Tape_signAt v2 m)) ∧ ∀ v1' : Int, v1' = (v1 * 128) + (x_Tape_signAt v2 m) → gh_i (v2 + (-1)) ∧ K9 v1' (v2 + (-1))))
def w_Tape_key (m : gh_M) (Q : Int → Prop) : Prop := gh_i ((m 3 4) - 1) ∧ ∀ v2 : Int, v2 = (m 3 4) - 1 → gh_L2 (fun K9 v1 v2 => f_Tape_key_9 Q m K9 v1 v2) 0 v2
theorem b_Tape_key_9 {E : gh_E} {Q : Int → Prop} {K9 : Int → Int → Prop} (d : Nat) {m : gh_M} (hK : ∀ (v1 : Int) (v2 : Int), gh_F m → K9 v1 v2 → gh_T E (gh_yTape_key.cls, prog_10_method_14_code, 3, false, 0) (d + 1) 9 [(0, 2, 3), (1, 0, v1), (2, 0, v2)] [] m (fun r m1 => m1 = m ∧ Q r)) (v1 : Int) (v2 : Int) (hF : gh_F m) (h : f_Tape_key_9 Q m K9 v1 v2) : gh_T E (gh_yTape_key.cls, prog_10_method_14_code, 3, false, 0) (d + 1) 9 [(0, 2, 3), (1, 0, v1), (2, 0, v2)] [] m (fun r m1 => m1 = m ∧ Q r) := by
  have hK9 := hK
  unfold f_Tape_key_9 at h
  refine gh_iload_n gd_Tape_key_9 2 rfl ?_
  refine gh_aload_n gd_Tape_key_10 0 rfl (by decide) ?_
  refine gf_3_3 gd_Tape_key_11 gh_k91 hF rfl ?_
  obtain ⟨hA, hB⟩ := h
  refine gh_jlt (tgt := 35) gd_Tape_key_14 (by decide) (fun c228 => ?_) (fun c228 => ?_)
  · have h := hA c228
    refine gh_iload_n gd_Tape_key_35 1 rfl ?_
    exact gh_ret0 rfl gd_Tape_key_36 ⟨rfl, h⟩
  · have h := hB c228
    refine gh_iload_n gd_Tape_key_17 1 rfl ?_
    refine gh_sipush gd_Tape_key_18 (by decide) (gh_r0 rfl) ?_
    obtain ⟨q229, h⟩ := h
    refine gh_imul gd_Tape_key_21 q229 ?_
    refine gh_aload_n gd_Tape_key_22 0 rfl (by decide) ?_
    refine gh_iload_n gd_Tape_key_23 2 rfl ?_
    obtain ⟨q230, h⟩ := h
    refine cv_Tape_signAt (d := d) gd_Tape_key_24 gh_k594 hF (Nat.le_of_ble_eq_true rfl) (gh_C.pe (e_Tape_signAt d v2 hF q230) ?_)
    obtain ⟨q231, h⟩ := h
    refine gh_iadd gd_Tape_key_27 q231 ?_
    refine gh_name (fun v1' hn => ?_)
    have h := h v1' hn
    refine gh_istore_n (L2 := [(1, 0, v1'), (0, 2, 3), (2, 0, v2)]) gd_Tape_key_28 (by decide) rfl ?_
    obtain ⟨q232, h⟩ := h
    refine gh_iinc (L2 := [(2, 0, v2 + (-1)), (1, 0, v1'), (0, 2, 3)]) gd_Tape_key_29 2 rfl q232 (by decide) rfl ?_
    refine gh_goto (tgt := 9) gd_Tape_key_32 (by decide) ?_
    refine gh_pick (L2 := [(0, 2, 3), (1, 0, v1'), (2, 0, v2 + (-1))]) [2, 1, 0] rfl ?_
    exact hK9 v1' (v2 + (-1)) hF h
theorem s_Tape_key {E : gh_E} {m : gh_M} {Q : Int → Prop} (d : Nat) (hF : gh_F m) (h : w_Tape_key m Q) : gh_C E gh_yTape_key prog_10_method_14_code 3 (some .int) 0 (d + 1) [(2, 3)] m (fun r m1 => m1 = m ∧ Q r) := by
  refine gh_enter2 (L := [(0, 2, 3)]) (by decide +kernel) gh_rt0 (Nat.le_of_ble_eq_true rfl) rfl rfl ?_
  unfold w_Tape_key at h
  refine gh_iconst gd_Tape_key_0 (gh_r0 rfl) ?_
  refine gh_istore_n (L2 := [(1, 0, 0), (0, 2, 3)]) gd_Tape_key_1 (by decide) rfl ?_
  refine gh_aload_n gd_Tape_key_2 1 rfl (by decide) ?_
  refine gf_3_4 gd_Tape_key_3 gh_k92 hF rfl ?_
  refine gh_iconst gd_Tape_key_6 (gh_r0 rfl) ?_
  obtain ⟨q227, h⟩ := h
  refine gh_isub gd_Tape_key_7 q227 ?_
  refine gh_name (fun v2 hn => ?_)
  have h := h v2 hn
  refine gh_istore_n (L2 := [(2, 0, v2), (1, 0, 0), (0, 2, 3)]) gd_Tape_key_8 (by decide) rfl ?_
  refine gh_pick (L2 := [(0, 2, 3), (1, 0, 0), (2, 0, v2)]) [2, 1, 0] rfl ?_
  exact gh_L2_sound (T := fun v1 v2 => gh_T E (gh_yTape_key.cls, prog_10_method_14_code, 3, false, 0) (d + 1) 9 [(0, 2, 3), (1, 0, v1), (2, 0, v2)] [] m (fun r m1 => m1 = m ∧ Q r)) (fun _ _ => gh_F m) (fun K9 v1 v2 hK hF h => b_Tape_key_9 d hK v1 v2 hF h) 0 v2 hF h
def f_Draft_find_2 (v1 : Int) (Q : Int → Prop) (m : gh_M) (K2 : Int → Prop) (v2 : Int) : Prop := ((((v2 < (m 6 1)) ∧ (v2 < 8)) → 0 ≤ v2 ∧ v2 < 8 ∧ (((m 7 v2) = v1 → Q v2) ∧ (¬ ((m 7 v2) = v1) → gh_i (v2 + 1) ∧ K2 (v2 + 1)))) ∧ (¬ ((v2 < (m 6 1)) ∧ (v2 < 8)) → Q (-1)))
def w_Draft_find (v1 : Int) (m : gh_M) (Q : Int → Prop) : Prop := gh_L1 (fun K2 v2 => f_Draft_find_2 v1 Q m K2 v2) 0
theorem b_Draft_find_2 {E : gh_E} {v1 : Int} {Q : Int → Prop} {K2 : Int → Prop} (d : Nat) {m : gh_M} (hK : ∀ (v2 : Int), gh_F m → K2 v2 → gh_T E (gh_yDraft_find.cls, prog_3_method_4_code, 3, false, 0) (d + 0) 2 [(0, 2, 6), (1, 0, v1), (2, 0, v2)] [] m (fun r m1 => m1 = m ∧ Q r)) (v2 : Int) (hF : gh_F m) (h : f_Draft_find_2 v1 Q m K2 v2) : gh_T E (gh_yDraft_find.cls, prog_3_method_4_code, 3, false, 0) (d + 0) 2 [(0, 2, 6), (1, 0, v1), (2, 0, v2)] [] m (fun r m1 => m1 = m ∧ Q r) := by
  have hK2 := hK
  unfold f_Draft_find_2 at h
  refine gh_iload_n gd_Draft_find_2 2 rfl ?_
  refine gh_aload_n gd_Draft_find_3 0 rfl (by decide) ?_
  refine gf_6_1 gd_Draft_find_4 gh_k118 hF rfl ?_
  obtain ⟨hA, hB⟩ := h
  have k233 : ((v2 < (m 6 1)) ∧ (v2 < 8)) → gh_T E (gh_yDraft_find.cls, prog_3_method_4_code, 3, false, 0) (d + 0) 16 [(0, 2, 6), (1, 0, v1), (2, 0, v2)] [] m (fun r m1 => m1 = m ∧ Q r) := by
    intro c
    have h := hA c
    refine gh_aload_n gd_Draft_find_16 0 rfl (by decide) ?_
    refine gf_6_0 gd_Draft_find_17 gh_k117 hF ?_
    refine gh_iload_n gd_Draft_find_20 2 rfl ?_
    obtain ⟨q235, h⟩ := h
    obtain ⟨q236, h⟩ := h
    refine la_7 gd_Draft_find_21 hF q235 q236 rfl ?_
    refine gh_iload_n gd_Draft_find_22 1 rfl ?_
    obtain ⟨hA, hB⟩ := h
    refine gh_jne (tgt := 28) gd_Draft_find_23 (by decide) (fun c237 => ?_) (fun c237 => ?_)
    · have h := hA c237
      refine gh_iload_n gd_Draft_find_26 2 rfl ?_
      exact gh_ret0 rfl gd_Draft_find_27 ⟨rfl, h⟩
    · have h := hB c237
      obtain ⟨q238, h⟩ := h
      refine gh_iinc (L2 := [(2, 0, v2 + 1), (0, 2, 6), (1, 0, v1)]) gd_Draft_find_28 2 rfl q238 (by decide) rfl ?_
      refine gh_goto (tgt := 2) gd_Draft_find_31 (by decide) ?_
      refine gh_pick (L2 := [(0, 2, 6), (1, 0, v1), (2, 0, v2 + 1)]) [1, 2, 0] rfl ?_
      exact hK2 (v2 + 1) hF h
  have k234 : ¬ ((v2 < (m 6 1)) ∧ (v2 < 8)) → gh_T E (gh_yDraft_find.cls, prog_3_method_4_code, 3, false, 0) (d + 0) 34 [(0, 2, 6), (1, 0, v1), (2, 0, v2)] [] m (fun r m1 => m1 = m ∧ Q r) := by
    intro c
    have h := hB c
    refine gh_iconst gd_Draft_find_34 (gh_r0 rfl) ?_
    exact gh_ret0 rfl gd_Draft_find_35 ⟨rfl, h⟩
  refine gh_jge (tgt := 34) gd_Draft_find_7 (by decide) (fun c239 => ?_) (fun c239 => ?_)
  · have hz : True := trivial
    refine gh_iload_n gd_Draft_find_10 2 rfl ?_
    refine gh_bipush gd_Draft_find_11 (by decide) (gh_r0 rfl) ?_
    refine gh_jge (tgt := 34) gd_Draft_find_13 (by decide) (fun c240 => ?_) (fun c240 => ?_)
    · have hz : True := trivial
      exact k233 ⟨c239, c240⟩
    · have hz : True := trivial
      exact k234 (fun z => c240 z.2)
  · have hz : True := trivial
    exact k234 (fun z => c239 z.1)
theorem s_Draft_find {E : gh_E} {m : gh_M} {Q : Int → Prop} (d : Nat) (v1 : Int) (hF : gh_F m) (h : w_Draft_find v1 m Q) : gh_C E gh_yDraft_find prog_3_method_4_code 3 (some .int) 0 (d + 0) [(2, 6), (0, v1)] m (fun r m1 => m1 = m ∧ Q r) := by
  refine gh_enter2 (L := [(0, 2, 6), (1, 0, v1)]) (by decide +kernel) gh_rt0 (Nat.le_of_ble_eq_true rfl) rfl rfl ?_
  unfold w_Draft_find at h
  refine gh_iconst gd_Draft_find_0 (gh_r0 rfl) ?_
  refine gh_istore_n (L2 := [(2, 0, 0), (0, 2, 6), (1, 0, v1)]) gd_Draft_find_1 (by decide) rfl ?_
  refine gh_pick (L2 := [(0, 2, 6), (1, 0, v1), (2, 0, 0)]) [1, 2, 0] rfl ?_
  exact gh_L1_sound (T := fun v2 => gh_T E (gh_yDraft_find.cls, prog_3_method_4_code, 3, false, 0) (d + 0) 2 [(0, 2, 6), (1, 0, v1), (2, 0, v2)] [] m (fun r m1 => m1 = m ∧ Q r)) (fun _ => gh_F m) (fun K2 v2 hK hF h => b_Draft_find_2 d hK v2 hF h) 0 hF h
def w_Reader_isTooMuch (m : gh_M) (Q : Int → Prop) : Prop := (((m 3 2) = 1 ∨ (m 3 2) = 2 ∨ (m 3 2) = 3 → (((m 5 4) = 0 → k_Draft_allNames m ∧ ∃ J137 : Prop, (J137 → Q 0) ∧ (((x_Draft_allNames m) < 8 → J137) ∧ (¬ ((x_Draft_allNames m) < 8) → w_Tape_key m (fun r246 => w_Draft_find r246 m (fun r248 => ((r248 = (-1) → Q 1) ∧ (¬ (r248 = (-1)) → J137))))))) ∧ (¬ ((m 5 4) = 0) → 0 ≤ m 5 5 ∧ (m 5 5) < 4 ∧ k_Tape_width m ∧ gh_i ((m 11 (m 5 5)) + (x_Tape_width m)) ∧ Q (if (¬ (((m 11 (m 5 5)) + (x_Tape_width m)) ≤ 4)) then (1:Int) else 0)))) ∧ (((m 3 2) = 40 → Q (if (¬ ((m 5 5) < 3)) then (1:Int) else 0)) ∧ (((m 3 2) = 41 → ((((m 6 3) < 20) → (k_Draft_allNames m ∧ (((x_Draft_allNames m) < 8) → ((¬ ((m 5 5) ≤ 0) → (gh_i ((m 5 5) - 1) ∧ 0 ≤ (m 5 5) - 1 ∧ ((m 5 5) - 1) < 4))))))) ∧ Q (if (¬ ((m 6 3) < 20) ∨ (¬ ((x_Draft_allNames m) < 8) ∨ (¬ ((m 5 5) ≤ 0) ∧ (¬ ((m 11 ((m 5 5) - 1)) < 4))))) then (1:Int) else 0)) ∧ (((m 3 2) = 42 ∨ (m 3 2) = 43 ∨ (m 3 2) = 63 → gh_i ((m 6 3) + 2) ∧ (((((m 6 3) + 2) ≤ 20) → (k_Draft_allNames m))) ∧ Q (if (¬ (((m 6 3) + 2) ≤ 20) ∨ (¬ ((x_Draft_allNames m) < 8))) then (1:Int) else 0)) ∧ (((m 3 2) = 59 ∨ (m 3 2) = 124 → Q (if (¬ ((m 6 3) < 20)) then (1:Int) else 0)) ∧ (¬ ((m 3 2) = 1 ∨ (m 3 2) = 2 ∨ (m 3 2) = 3) → ¬ ((m 3 2) = 40) → ¬ ((m 3 2) = 41) → ¬ ((m 3 2) = 42 ∨ (m 3 2) = 43 ∨ (m 3 2) = 63) → ¬ ((m 3 2) = 59 ∨ (m 3 2) = 124) → Q 0))))))
theorem s_Reader_isTooMuch {E : gh_E} {m : gh_M} {Q : Int → Prop} (d : Nat) (hF : gh_F m) (h : w_Reader_isTooMuch m Q) : gh_C E gh_yReader_isTooMuch prog_9_method_6_code 1 (some .boolean) 8 (d + 2) [(2, 5)] m (fun r m1 => m1 = m ∧ Q r) := by
  refine gh_enter2 (L := [(0, 2, 5)]) (by decide +kernel) gh_rt8 (Nat.le_of_ble_eq_true rfl) rfl rfl ?_
  unfold w_Reader_isTooMuch at h
  refine gh_aload_n gd_Reader_isTooMuch_0 0 rfl (by decide) ?_
  refine gf_5_3 gd_Reader_isTooMuch_1 gh_k147 hF ?_
  refine gf_3_2 gd_Reader_isTooMuch_4 gh_k88 hF rfl ?_
  obtain ⟨hA, h⟩ := h
  by_cases c241 : (m 3 2) = 1 ∨ (m 3 2) = 2 ∨ (m 3 2) = 3
  · have h := hA c241
    have k242 : gh_T E (gh_yReader_isTooMuch.cls, prog_9_method_6_code, 1, false, 8) (d + 2) 96 [(0, 2, 5)] [] m (fun r m1 => m1 = m ∧ Q r) := by
      refine gh_aload_n gd_Reader_isTooMuch_96 0 rfl (by decide) ?_
      refine gf_5_4 gd_Reader_isTooMuch_97 gh_k148 hF rfl ?_
      obtain ⟨hA, hB⟩ := h
      refine gh_zne (tgt := 139) gd_Reader_isTooMuch_100 (by decide) (fun c243 => ?_) (fun c243 => ?_)
      · have h := hA c243
        refine gh_aload_n gd_Reader_isTooMuch_103 0 rfl (by decide) ?_
        refine gf_5_0 gd_Reader_isTooMuch_104 gh_k141 hF ?_
        obtain ⟨q244, h⟩ := h
        refine cv_Draft_allNames (d := d + 1) gd_Reader_isTooMuch_107 gh_k631 hF (Nat.le_of_ble_eq_true rfl) (gh_C.pe (e_Draft_allNames (d + 1)  hF q244) ?_)
        refine gh_bipush gd_Reader_isTooMuch_110 (by decide) (gh_r0 rfl) ?_
        obtain ⟨J137, hJ137, h⟩ := h
        have hJ137 : gh_F m → J137 → gh_T E (gh_yReader_isTooMuch.cls, prog_9_method_6_code, 1, false, 8) (d + 2) 137 [] [] m (fun r m1 => m1 = m ∧ Q r) := by
          intro hF hj
          have h := hJ137 hj
          refine gh_iconst gd_Reader_isTooMuch_137 (gh_r0 rfl) ?_
          exact gh_ret8 rfl gd_Reader_isTooMuch_138 (by decide) ⟨rfl, h⟩
        obtain ⟨hA, hB⟩ := h
        refine gh_jlt (tgt := 137) gd_Reader_isTooMuch_112 (by decide) (fun c245 => ?_) (fun c245 => ?_)
        · have h := hA c245
          refine gh_pick (L2 := []) [] rfl ?_
          exact hJ137 hF h
        · have h := hB c245
          refine gh_aload_n gd_Reader_isTooMuch_115 0 rfl (by decide) ?_
          refine gf_5_0 gd_Reader_isTooMuch_116 gh_k141 hF ?_
          refine gh_aload_n gd_Reader_isTooMuch_119 0 rfl (by decide) ?_
          refine gf_5_3 gd_Reader_isTooMuch_120 gh_k147 hF ?_
          refine cv_Tape_key (d := d + 1) gd_Reader_isTooMuch_123 gh_k635 hF (Nat.le_of_ble_eq_true rfl) (gh_C.pw (s_Tape_key d hF h) (fun r246 h => ?_))
          refine cv_Draft_find (d := d + 1) gd_Reader_isTooMuch_126 gh_k639 hF (Nat.le_of_ble_eq_true rfl) (gh_C.pw (s_Draft_find (d + 1) r246 hF h) (fun r248 h => ?_))
          refine gh_iconst gd_Reader_isTooMuch_129 (gh_r0 rfl) ?_
          obtain ⟨hA, hB⟩ := h
          refine gh_jne (tgt := 137) gd_Reader_isTooMuch_130 (by decide) (fun c250 => ?_) (fun c250 => ?_)
          · have h := hA c250
            refine gh_iconst gd_Reader_isTooMuch_133 (gh_r0 rfl) ?_
            refine gh_goto (tgt := 138) gd_Reader_isTooMuch_134 (by decide) ?_
            exact gh_ret8 rfl gd_Reader_isTooMuch_138 (by decide) ⟨rfl, h⟩
          · have h := hB c250
            refine gh_pick (L2 := []) [] rfl ?_
            exact hJ137 hF h
      · have h := hB c243
        refine gh_aload_n gd_Reader_isTooMuch_139 0 rfl (by decide) ?_
        refine gf_5_7 gd_Reader_isTooMuch_140 gh_k151 hF ?_
        refine gh_aload_n gd_Reader_isTooMuch_143 0 rfl (by decide) ?_
        refine gf_5_5 gd_Reader_isTooMuch_144 gh_k149 hF rfl ?_
        obtain ⟨q251, h⟩ := h
        obtain ⟨q252, h⟩ := h
        refine la_11 gd_Reader_isTooMuch_147 hF q251 q252 rfl ?_
        refine gh_aload_n gd_Reader_isTooMuch_148 0 rfl (by decide) ?_
        refine gf_5_3 gd_Reader_isTooMuch_149 gh_k147 hF ?_
        obtain ⟨q253, h⟩ := h
        refine cv_Tape_width (d := d + 1) gd_Reader_isTooMuch_152 gh_k643 hF (Nat.le_of_ble_eq_true rfl) (gh_C.pe (e_Tape_width (d + 1)  hF q253) ?_)
        obtain ⟨q254, h⟩ := h
        refine gh_iadd gd_Reader_isTooMuch_155 q254 ?_
        refine gh_iconst gd_Reader_isTooMuch_156 (gh_r0 rfl) ?_
        have k255 : ∀ x256 : Int, x256 = (if (¬ (((m 11 (m 5 5)) + (x_Tape_width m)) ≤ 4)) then (1:Int) else 0) → gh_T E (gh_yReader_isTooMuch.cls, prog_9_method_6_code, 1, false, 8) (d + 2) 165 [(0, 2, 5)] [(0, x256)] m (fun r m1 => m1 = m ∧ Q r) := by
          rintro _ rfl
          exact gh_ret8 rfl gd_Reader_isTooMuch_165 gh_ib01 ⟨rfl, h⟩
        refine gh_jle (tgt := 164) gd_Reader_isTooMuch_157 (by decide) (fun c257 => ?_) (fun c257 => ?_)
        · have hz : True := trivial
          refine gh_iconst gd_Reader_isTooMuch_164 (gh_r0 rfl) ?_
          exact k255 _ (if_neg (c := (¬ (((m 11 (m 5 5)) + (x_Tape_width m)) ≤ 4))) (not_not_intro c257)).symm
        · have hz : True := trivial
          refine gh_iconst gd_Reader_isTooMuch_160 (gh_r0 rfl) ?_
          refine gh_goto (tgt := 165) gd_Reader_isTooMuch_161 (by decide) ?_
          exact k255 _ (if_pos (c := (¬ (((m 11 (m 5 5)) + (x_Tape_width m)) ≤ 4))) c257).symm
    rcases c241 with e | e | e
    · exact gh_lookup (tgt := 96) gd_Reader_isTooMuch_7 (by decide) (by rw [e]; decide) k242
    · exact gh_lookup (tgt := 96) gd_Reader_isTooMuch_7 (by decide) (by rw [e]; decide) k242
    · exact gh_lookup (tgt := 96) gd_Reader_isTooMuch_7 (by decide) (by rw [e]; decide) k242
  obtain ⟨hA, h⟩ := h
  by_cases c258 : (m 3 2) = 40
  · have h := hA c258
    refine gh_lookup (tgt := 166) gd_Reader_isTooMuch_7 (by decide) (by rw [c258]; decide) ?_
    refine gh_aload_n gd_Reader_isTooMuch_166 0 rfl (by decide) ?_
    refine gf_5_5 gd_Reader_isTooMuch_167 gh_k149 hF rfl ?_
    refine gh_iconst gd_Reader_isTooMuch_170 (gh_r0 rfl) ?_
    have k259 : ∀ x260 : Int, x260 = (if (¬ ((m 5 5) < 3)) then (1:Int) else 0) → gh_T E (gh_yReader_isTooMuch.cls, prog_9_method_6_code, 1, false, 8) (d + 2) 179 [(0, 2, 5)] [(0, x260)] m (fun r m1 => m1 = m ∧ Q r) := by
      rintro _ rfl
      exact gh_ret8 rfl gd_Reader_isTooMuch_179 gh_ib01 ⟨rfl, h⟩
    refine gh_jlt (tgt := 178) gd_Reader_isTooMuch_171 (by decide) (fun c261 => ?_) (fun c261 => ?_)
    · have hz : True := trivial
      refine gh_iconst gd_Reader_isTooMuch_178 (gh_r0 rfl) ?_
      exact k259 _ (if_neg (c := (¬ ((m 5 5) < 3))) (not_not_intro c261)).symm
    · have hz : True := trivial
      refine gh_iconst gd_Reader_isTooMuch_174 (gh_r0 rfl) ?_
      refine gh_goto (tgt := 179) gd_Reader_isTooMuch_175 (by decide) ?_
      exact k259 _ (if_pos (c := (¬ ((m 5 5) < 3))) c261).symm
  obtain ⟨hA, h⟩ := h
  by_cases c262 : (m 3 2) = 41
  · have h := hA c262
    refine gh_lookup (tgt := 198) gd_Reader_isTooMuch_7 (by decide) (by rw [c262]; decide) ?_
    refine gh_aload_n gd_Reader_isTooMuch_198 0 rfl (by decide) ?_
    refine gf_5_0 gd_Reader_isTooMuch_199 gh_k141 hF ?_
    refine gf_6_3 gd_Reader_isTooMuch_202 gh_k122 hF rfl ?_
    refine gh_bipush gd_Reader_isTooMuch_205 (by decide) (gh_r0 rfl) ?_
    obtain ⟨hk, h⟩ := h
    have k267 : ∀ x268 : Int, x268 = (if (¬ ((m 6 3) < 20) ∨ (¬ ((x_Draft_allNames m) < 8) ∨ (¬ ((m 5 5) ≤ 0) ∧ (¬ ((m 11 ((m 5 5) - 1)) < 4))))) then (1:Int) else 0) → gh_T E (gh_yReader_isTooMuch.cls, prog_9_method_6_code, 1, false, 8) (d + 2) 249 [(0, 2, 5)] [(0, x268)] m (fun r m1 => m1 = m ∧ Q r) := by
      rintro _ rfl
      exact gh_ret8 rfl gd_Reader_isTooMuch_249 gh_ib01 ⟨rfl, h⟩
    refine gh_jge (tgt := 244) gd_Reader_isTooMuch_207 (by decide) (fun c269 => ?_) (fun c269 => ?_)
    · have hz : True := trivial
      have hk := hk c269
      refine gh_aload_n gd_Reader_isTooMuch_210 0 rfl (by decide) ?_
      refine gf_5_0 gd_Reader_isTooMuch_211 gh_k141 hF ?_
      obtain ⟨q263, hk⟩ := hk
      refine cv_Draft_allNames (d := d + 1) gd_Reader_isTooMuch_214 gh_k631 hF (Nat.le_of_ble_eq_true rfl) (gh_C.pe (e_Draft_allNames (d + 1)  hF q263) ?_)
      refine gh_bipush gd_Reader_isTooMuch_217 (by decide) (gh_r0 rfl) ?_
      refine gh_jge (tgt := 244) gd_Reader_isTooMuch_219 (by decide) (fun c270 => ?_) (fun c270 => ?_)
      · have hz : True := trivial
        have hk := hk c270
        refine gh_aload_n gd_Reader_isTooMuch_222 0 rfl (by decide) ?_
        refine gf_5_5 gd_Reader_isTooMuch_223 gh_k149 hF rfl ?_
        refine gh_zle (tgt := 248) gd_Reader_isTooMuch_226 (by decide) (fun c271 => ?_) (fun c271 => ?_)
        · have hz : True := trivial
          refine gh_iconst gd_Reader_isTooMuch_248 (gh_r0 rfl) ?_
          exact k267 _ (if_neg (c := (¬ ((m 6 3) < 20) ∨ (¬ ((x_Draft_allNames m) < 8) ∨ (¬ ((m 5 5) ≤ 0) ∧ (¬ ((m 11 ((m 5 5) - 1)) < 4)))))) (fun z => z.elim (fun w => w c269) (fun z => z.elim (fun w => w c270) (fun z => z.1 c271)))).symm
        · have hz : True := trivial
          have hk := hk c271
          refine gh_aload_n gd_Reader_isTooMuch_229 0 rfl (by decide) ?_
          refine gf_5_7 gd_Reader_isTooMuch_230 gh_k151 hF ?_
          refine gh_aload_n gd_Reader_isTooMuch_233 0 rfl (by decide) ?_
          refine gf_5_5 gd_Reader_isTooMuch_234 gh_k149 hF rfl ?_
          refine gh_iconst gd_Reader_isTooMuch_237 (gh_r0 rfl) ?_
          obtain ⟨q264, hk⟩ := hk
          refine gh_isub gd_Reader_isTooMuch_238 q264 ?_
          obtain ⟨q265, hk⟩ := hk
          have q266 := hk
          refine la_11 gd_Reader_isTooMuch_239 hF q265 q266 rfl ?_
          refine gh_iconst gd_Reader_isTooMuch_240 (gh_r0 rfl) ?_
          refine gh_jlt (tgt := 248) gd_Reader_isTooMuch_241 (by decide) (fun c272 => ?_) (fun c272 => ?_)
          · have hz : True := trivial
            refine gh_iconst gd_Reader_isTooMuch_248 (gh_r0 rfl) ?_
            exact k267 _ (if_neg (c := (¬ ((m 6 3) < 20) ∨ (¬ ((x_Draft_allNames m) < 8) ∨ (¬ ((m 5 5) ≤ 0) ∧ (¬ ((m 11 ((m 5 5) - 1)) < 4)))))) (fun z => z.elim (fun w => w c269) (fun z => z.elim (fun w => w c270) (fun z => (not_not_intro c272) z.2)))).symm
          · have hz : True := trivial
            refine gh_iconst gd_Reader_isTooMuch_244 (gh_r0 rfl) ?_
            refine gh_goto (tgt := 249) gd_Reader_isTooMuch_245 (by decide) ?_
            exact k267 _ (if_pos (c := (¬ ((m 6 3) < 20) ∨ (¬ ((x_Draft_allNames m) < 8) ∨ (¬ ((m 5 5) ≤ 0) ∧ (¬ ((m 11 ((m 5 5) - 1)) < 4)))))) (Or.inr (Or.inr ⟨c271, c272⟩))).symm
      · have hz : True := trivial
        refine gh_iconst gd_Reader_isTooMuch_244 (gh_r0 rfl) ?_
        refine gh_goto (tgt := 249) gd_Reader_isTooMuch_245 (by decide) ?_
        exact k267 _ (if_pos (c := (¬ ((m 6 3) < 20) ∨ (¬ ((x_Draft_allNames m) < 8) ∨ (¬ ((m 5 5) ≤ 0) ∧ (¬ ((m 11 ((m 5 5) - 1)) < 4)))))) (Or.inr (Or.inl c270))).symm
    · have hz : True := trivial
      refine gh_iconst gd_Reader_isTooMuch_244 (gh_r0 rfl) ?_
      refine gh_goto (tgt := 249) gd_Reader_isTooMuch_245 (by decide) ?_
      exact k267 _ (if_pos (c := (¬ ((m 6 3) < 20) ∨ (¬ ((x_Draft_allNames m) < 8) ∨ (¬ ((m 5 5) ≤ 0) ∧ (¬ ((m 11 ((m 5 5) - 1)) < 4)))))) (Or.inl c269)).symm
  obtain ⟨hA, h⟩ := h
  by_cases c273 : (m 3 2) = 42 ∨ (m 3 2) = 43 ∨ (m 3 2) = 63
  · have h := hA c273
    have k274 : gh_T E (gh_yReader_isTooMuch.cls, prog_9_method_6_code, 1, false, 8) (d + 2) 250 [(0, 2, 5)] [] m (fun r m1 => m1 = m ∧ Q r) := by
      refine gh_aload_n gd_Reader_isTooMuch_250 0 rfl (by decide) ?_
      refine gf_5_0 gd_Reader_isTooMuch_251 gh_k141 hF ?_
      refine gf_6_3 gd_Reader_isTooMuch_254 gh_k122 hF rfl ?_
      refine gh_iconst gd_Reader_isTooMuch_257 (gh_r0 rfl) ?_
      obtain ⟨q275, h⟩ := h
      refine gh_iadd gd_Reader_isTooMuch_258 q275 ?_
      refine gh_bipush gd_Reader_isTooMuch_259 (by decide) (gh_r0 rfl) ?_
      obtain ⟨hk, h⟩ := h
      have k277 : ∀ x278 : Int, x278 = (if (¬ (((m 6 3) + 2) ≤ 20) ∨ (¬ ((x_Draft_allNames m) < 8))) then (1:Int) else 0) → gh_T E (gh_yReader_isTooMuch.cls, prog_9_method_6_code, 1, false, 8) (d + 2) 281 [(0, 2, 5)] [(0, x278)] m (fun r m1 => m1 = m ∧ Q r) := by
        rintro _ rfl
        exact gh_ret8 rfl gd_Reader_isTooMuch_281 gh_ib01 ⟨rfl, h⟩
      refine gh_jgt (tgt := 276) gd_Reader_isTooMuch_261 (by decide) (fun c279 => ?_) (fun c279 => ?_)
      · have hz : True := trivial
        have hk := hk c279
        refine gh_aload_n gd_Reader_isTooMuch_264 0 rfl (by decide) ?_
        refine gf_5_0 gd_Reader_isTooMuch_265 gh_k141 hF ?_
        have q276 := hk
        refine cv_Draft_allNames (d := d + 1) gd_Reader_isTooMuch_268 gh_k631 hF (Nat.le_of_ble_eq_true rfl) (gh_C.pe (e_Draft_allNames (d + 1)  hF q276) ?_)
        refine gh_bipush gd_Reader_isTooMuch_271 (by decide) (gh_r0 rfl) ?_
        refine gh_jlt (tgt := 280) gd_Reader_isTooMuch_273 (by decide) (fun c280 => ?_) (fun c280 => ?_)
        · have hz : True := trivial
          refine gh_iconst gd_Reader_isTooMuch_280 (gh_r0 rfl) ?_
          exact k277 _ (if_neg (c := (¬ (((m 6 3) + 2) ≤ 20) ∨ (¬ ((x_Draft_allNames m) < 8)))) (fun z => z.elim (fun w => w c279) (not_not_intro c280))).symm
        · have hz : True := trivial
          refine gh_iconst gd_Reader_isTooMuch_276 (gh_r0 rfl) ?_
          refine gh_goto (tgt := 281) gd_Reader_isTooMuch_277 (by decide) ?_
          exact k277 _ (if_pos (c := (¬ (((m 6 3) + 2) ≤ 20) ∨ (¬ ((x_Draft_allNames m) < 8)))) (Or.inr c280)).symm
      · have hz : True := trivial
        refine gh_iconst gd_Reader_isTooMuch_276 (gh_r0 rfl) ?_
        refine gh_goto (tgt := 281) gd_Reader_isTooMuch_277 (by decide) ?_
        exact k277 _ (if_pos (c := (¬ (((m 6 3) + 2) ≤ 20) ∨ (¬ ((x_Draft_allNames m) < 8)))) (Or.inl c279)).symm
    rcases c273 with e | e | e
    · exact gh_lookup (tgt := 250) gd_Reader_isTooMuch_7 (by decide) (by rw [e]; decide) k274
    · exact gh_lookup (tgt := 250) gd_Reader_isTooMuch_7 (by decide) (by rw [e]; decide) k274
    · exact gh_lookup (tgt := 250) gd_Reader_isTooMuch_7 (by decide) (by rw [e]; decide) k274
  obtain ⟨hA, h⟩ := h
  by_cases c281 : (m 3 2) = 59 ∨ (m 3 2) = 124
  · have h := hA c281
    have k282 : gh_T E (gh_yReader_isTooMuch.cls, prog_9_method_6_code, 1, false, 8) (d + 2) 180 [(0, 2, 5)] [] m (fun r m1 => m1 = m ∧ Q r) := by
      refine gh_aload_n gd_Reader_isTooMuch_180 0 rfl (by decide) ?_
      refine gf_5_0 gd_Reader_isTooMuch_181 gh_k141 hF ?_
      refine gf_6_3 gd_Reader_isTooMuch_184 gh_k122 hF rfl ?_
      refine gh_bipush gd_Reader_isTooMuch_187 (by decide) (gh_r0 rfl) ?_
      have k283 : ∀ x284 : Int, x284 = (if (¬ ((m 6 3) < 20)) then (1:Int) else 0) → gh_T E (gh_yReader_isTooMuch.cls, prog_9_method_6_code, 1, false, 8) (d + 2) 197 [(0, 2, 5)] [(0, x284)] m (fun r m1 => m1 = m ∧ Q r) := by
        rintro _ rfl
        exact gh_ret8 rfl gd_Reader_isTooMuch_197 gh_ib01 ⟨rfl, h⟩
      refine gh_jlt (tgt := 196) gd_Reader_isTooMuch_189 (by decide) (fun c285 => ?_) (fun c285 => ?_)
      · have hz : True := trivial
        refine gh_iconst gd_Reader_isTooMuch_196 (gh_r0 rfl) ?_
        exact k283 _ (if_neg (c := (¬ ((m 6 3) < 20))) (not_not_intro c285)).symm
      · have hz : True := trivial
        refine gh_iconst gd_Reader_isTooMuch_192 (gh_r0 rfl) ?_
        refine gh_goto (tgt := 197) gd_Reader_isTooMuch_193 (by decide) ?_
        exact k283 _ (if_pos (c := (¬ ((m 6 3) < 20))) c285).symm
    rcases c281 with e | e
    · exact gh_lookup (tgt := 180) gd_Reader_isTooMuch_7 (by decide) (by rw [e]; decide) k282
    · exact gh_lookup (tgt := 180) gd_Reader_isTooMuch_7 (by decide) (by rw [e]; decide) k282
  have n286 : ¬ ((m 3 2) = 1) := fun z => c241 (by simp [z])
  have n287 : ¬ ((m 3 2) = 2) := fun z => c241 (by simp [z])
  have n288 : ¬ ((m 3 2) = 3) := fun z => c241 (by simp [z])
  have n289 : ¬ ((m 3 2) = 40) := c258
  have n290 : ¬ ((m 3 2) = 41) := c262
  have n291 : ¬ ((m 3 2) = 42) := fun z => c273 (by simp [z])
  have n292 : ¬ ((m 3 2) = 43) := fun z => c273 (by simp [z])
  have n293 : ¬ ((m 3 2) = 63) := fun z => c273 (by simp [z])
  have n294 : ¬ ((m 3 2) = 59) := fun z => c281 (by simp [z])
  have n295 : ¬ ((m 3 2) = 124) := fun z => c281 (by simp [z])
  refine gh_lookup (tgt := 282) gd_Reader_isTooMuch_7 (by decide) (by simp [Op.lookupswitch.offset]; rw [if_neg (Ne.symm n286), if_neg (Ne.symm n287), if_neg (Ne.symm n288), if_neg (Ne.symm n289), if_neg (Ne.symm n290), if_neg (Ne.symm n291), if_neg (Ne.symm n292), if_neg (Ne.symm n294), if_neg (Ne.symm n293), if_neg (Ne.symm n295)]; rfl) ?_
  have h := h c241 c258 c262 c273 c281
  refine gh_iconst gd_Reader_isTooMuch_282 (gh_r0 rfl) ?_
  exact gh_ret8 rfl gd_Reader_isTooMuch_283 (by decide) ⟨rfl, h⟩
def w_Reader_faultHere (m : gh_M) (Q : Int → Prop) : Prop := (((m 3 2) = 5 → Q 1) ∧ (¬ ((m 3 2) = 5) → w_Reader_canStand m (fun r297 => ((r297 = 0 → Q 2) ∧ (¬ (r297 = 0) → w_Reader_isTooMuch m (fun r300 => ((r300 = 0 → ∃ J71 : Prop, (J71 → Q 0) ∧ (((((m 5 4) = 0) ∧ ((m 3 2) = 1)) → w_Tape_key m (fun r305 => w_Draft_find r305 m (fun r307 => ((r307 = (-1) → J71) ∧ (¬ (r307 = (-1)) → Q 4))))) ∧ (¬ (((m 5 4) = 0) ∧ ((m 3 2) = 1)) → J71))) ∧ (¬ (r300 = 0) → Q 3))))))))
theorem s_Reader_faultHere {E : gh_E} {m : gh_M} {Q : Int → Prop} (d : Nat) (hF : gh_F m) (h : w_Reader_faultHere m Q) : gh_C E gh_yReader_faultHere prog_9_method_4_code 1 (some .int) 0 (d + 3) [(2, 5)] m (fun r m1 => m1 = m ∧ Q r) := by
  refine gh_enter2 (L := [(0, 2, 5)]) (by decide +kernel) gh_rt0 (Nat.le_of_ble_eq_true rfl) rfl rfl ?_
  unfold w_Reader_faultHere at h
  refine gh_aload_n gd_Reader_faultHere_0 0 rfl (by decide) ?_
  refine gf_5_3 gd_Reader_faultHere_1 gh_k147 hF ?_
  refine gf_3_2 gd_Reader_faultHere_4 gh_k88 hF rfl ?_
  refine gh_iconst gd_Reader_faultHere_7 (gh_r0 rfl) ?_
  obtain ⟨hA, hB⟩ := h
  refine gh_jne (tgt := 13) gd_Reader_faultHere_8 (by decide) (fun c296 => ?_) (fun c296 => ?_)
  · have h := hA c296
    refine gh_iconst gd_Reader_faultHere_11 (gh_r0 rfl) ?_
    exact gh_ret0 rfl gd_Reader_faultHere_12 ⟨rfl, h⟩
  · have h := hB c296
    refine gh_aload_n gd_Reader_faultHere_13 0 rfl (by decide) ?_
    refine cv_Reader_canStand (d := d + 2) gd_Reader_faultHere_14 gh_k623 hF (Nat.le_of_ble_eq_true rfl) (gh_C.pw (s_Reader_canStand (d + 2) hF h) (fun r297 h => ?_))
    obtain ⟨hA, hB⟩ := h
    refine gh_zne (tgt := 22) gd_Reader_faultHere_17 (by decide) (fun c299 => ?_) (fun c299 => ?_)
    · have h := hA c299
      refine gh_iconst gd_Reader_faultHere_20 (gh_r0 rfl) ?_
      exact gh_ret0 rfl gd_Reader_faultHere_21 ⟨rfl, h⟩
    · have h := hB c299
      refine gh_aload_n gd_Reader_faultHere_22 0 rfl (by decide) ?_
      refine cv_Reader_isTooMuch (d := d + 2) gd_Reader_faultHere_23 gh_k627 hF (Nat.le_of_ble_eq_true rfl) (gh_C.pw (s_Reader_isTooMuch d hF h) (fun r300 h => ?_))
      obtain ⟨hA, hB⟩ := h
      refine gh_zeq (tgt := 31) gd_Reader_faultHere_26 (by decide) (fun c302 => ?_) (fun c302 => ?_)
      · have h := hA c302
        refine gh_aload_n gd_Reader_faultHere_31 0 rfl (by decide) ?_
        refine gf_5_4 gd_Reader_faultHere_32 gh_k148 hF rfl ?_
        obtain ⟨J71, hJ71, h⟩ := h
        have hJ71 : gh_F m → J71 → gh_T E (gh_yReader_faultHere.cls, prog_9_method_4_code, 1, false, 0) (d + 3) 71 [] [] m (fun r m1 => m1 = m ∧ Q r) := by
          intro hF hj
          have h := hJ71 hj
          refine gh_iconst gd_Reader_faultHere_71 (gh_r0 rfl) ?_
          exact gh_ret0 rfl gd_Reader_faultHere_72 ⟨rfl, h⟩
        obtain ⟨hA, hB⟩ := h
        have k303 : (((m 5 4) = 0) ∧ ((m 3 2) = 1)) → gh_T E (gh_yReader_faultHere.cls, prog_9_method_4_code, 1, false, 0) (d + 3) 49 [(0, 2, 5)] [] m (fun r m1 => m1 = m ∧ Q r) := by
          intro c
          have h := hA c
          refine gh_aload_n gd_Reader_faultHere_49 0 rfl (by decide) ?_
          refine gf_5_0 gd_Reader_faultHere_50 gh_k141 hF ?_
          refine gh_aload_n gd_Reader_faultHere_53 0 rfl (by decide) ?_
          refine gf_5_3 gd_Reader_faultHere_54 gh_k147 hF ?_
          refine cv_Tape_key (d := d + 2) gd_Reader_faultHere_57 gh_k635 hF (Nat.le_of_ble_eq_true rfl) (gh_C.pw (s_Tape_key (d + 1) hF h) (fun r305 h => ?_))
          refine cv_Draft_find (d := d + 2) gd_Reader_faultHere_60 gh_k639 hF (Nat.le_of_ble_eq_true rfl) (gh_C.pw (s_Draft_find (d + 2) r305 hF h) (fun r307 h => ?_))
          refine gh_iconst gd_Reader_faultHere_63 (gh_r0 rfl) ?_
          obtain ⟨hA, hB⟩ := h
          refine gh_jeq (tgt := 71) gd_Reader_faultHere_64 (by decide) (fun c309 => ?_) (fun c309 => ?_)
          · have h := hA c309
            refine gh_pick (L2 := []) [] rfl ?_
            exact hJ71 hF h
          · have h := hB c309
            refine gh_iconst gd_Reader_faultHere_67 (gh_r0 rfl) ?_
            refine gh_goto (tgt := 72) gd_Reader_faultHere_68 (by decide) ?_
            exact gh_ret0 rfl gd_Reader_faultHere_72 ⟨rfl, h⟩
        have k304 : ¬ (((m 5 4) = 0) ∧ ((m 3 2) = 1)) → gh_T E (gh_yReader_faultHere.cls, prog_9_method_4_code, 1, false, 0) (d + 3) 71 [(0, 2, 5)] [] m (fun r m1 => m1 = m ∧ Q r) := by
          intro c
          have h := hB c
          refine gh_pick (L2 := []) [] rfl ?_
          exact hJ71 hF h
        refine gh_zne (tgt := 71) gd_Reader_faultHere_35 (by decide) (fun c310 => ?_) (fun c310 => ?_)
        · have hz : True := trivial
          refine gh_aload_n gd_Reader_faultHere_38 0 rfl (by decide) ?_
          refine gf_5_3 gd_Reader_faultHere_39 gh_k147 hF ?_
          refine gf_3_2 gd_Reader_faultHere_42 gh_k88 hF rfl ?_
          refine gh_iconst gd_Reader_faultHere_45 (gh_r0 rfl) ?_
          refine gh_jne (tgt := 71) gd_Reader_faultHere_46 (by decide) (fun c311 => ?_) (fun c311 => ?_)
          · have hz : True := trivial
            exact k303 ⟨c310, c311⟩
          · have hz : True := trivial
            exact k304 (fun z => c311 z.2)
        · have hz : True := trivial
          exact k304 (fun z => c310 z.1)
      · have h := hB c302
        refine gh_iconst gd_Reader_faultHere_29 (gh_r0 rfl) ?_
        exact gh_ret0 rfl gd_Reader_faultHere_30 ⟨rfl, h⟩
def w_Draft_tell (v1 : Int) (m : gh_M) (Q : Int → gh_M → Prop) : Prop := (((m 6 1) < 8 → 0 ≤ m 6 1 ∧ (m 6 1) < 8 ∧ gh_i ((m 6 1) + 1) ∧ Q 0 (gh_u (gh_u m 7 (m 6 1) v1) 6 1 ((m 6 1) + 1))) ∧ (¬ ((m 6 1) < 8) → Q 0 m))
theorem s_Draft_tell {E : gh_E} {m : gh_M} {Q : Int → gh_M → Prop} (d : Nat) (v1 : Int) (hF : gh_F m) (h : w_Draft_tell v1 m Q) : gh_C E gh_yDraft_tell prog_3_method_5_code 2 none 9 (d + 0) [(2, 6), (0, v1)] m (fun r m1 => gh_F m1 ∧ Q r m1) := by
  refine gh_enter2 (L := [(0, 2, 6), (1, 0, v1)]) (by decide +kernel) gh_rt9 (Nat.le_of_ble_eq_true rfl) rfl rfl ?_
  unfold w_Draft_tell at h
  refine gh_aload_n gd_Draft_tell_0 0 rfl (by decide) ?_
  refine gf_6_1 gd_Draft_tell_1 gh_k118 hF rfl ?_
  refine gh_bipush gd_Draft_tell_4 (by decide) (gh_r0 rfl) ?_
  obtain ⟨hA, hB⟩ := h
  refine gh_jge (tgt := 29) gd_Draft_tell_6 (by decide) (fun c312 => ?_) (fun c312 => ?_)
  · have h := hA c312
    refine gh_aload_n gd_Draft_tell_9 0 rfl (by decide) ?_
    refine gf_6_0 gd_Draft_tell_10 gh_k117 hF ?_
    refine gh_aload_n gd_Draft_tell_13 0 rfl (by decide) ?_
    refine gf_6_1 gd_Draft_tell_14 gh_k118 hF rfl ?_
    refine gh_iload_n gd_Draft_tell_17 1 rfl ?_
    obtain ⟨q313, h⟩ := h
    obtain ⟨q314, h⟩ := h
    refine sa_7 gd_Draft_tell_18 hF q313 q314 (fun hF => ?_)
    refine gh_aload_n gd_Draft_tell_19 0 rfl (by decide) ?_
    refine gh_dup gd_Draft_tell_20 (by decide) ?_
    refine gf_6_1 gd_Draft_tell_21 gh_k118 hF (gh_u_a (by decide)) ?_
    refine gh_iconst gd_Draft_tell_24 (gh_r0 rfl) ?_
    obtain ⟨q315, h⟩ := h
    refine gh_iadd gd_Draft_tell_25 q315 ?_
    refine pf_6_1 gd_Draft_tell_26 gh_k118 hF (fun hF => ?_)
    exact gh_ret9 rfl gd_Draft_tell_29 ⟨hF, h⟩
  · have h := hB c312
    exact gh_ret9 rfl gd_Draft_tell_29 ⟨hF, h⟩
def w_Reader_push (v1 : Int) (m : gh_M) (Q : Int → gh_M → Prop) : Prop := 0 ≤ m 5 5 ∧ (m 5 5) < 4 ∧ (((m 11 (m 5 5)) < 4 → gh_i ((m 5 5) * 4) ∧ 0 ≤ m 5 5 ∧ (m 5 5) < 4 ∧ gh_i (((m 5 5) * 4) + (m 11 (m 5 5))) ∧ 0 ≤ ((m 5 5) * 4) + (m 11 (m 5 5)) ∧ (((m 5 5) * 4) + (m 11 (m 5 5))) < 16 ∧ 0 ≤ m 5 5 ∧ (m 5 5) < 4 ∧ gh_i ((m 11 (m 5 5)) + 1) ∧ 0 ≤ m 5 5 ∧ (m 5 5) < 4 ∧ Q 0 (gh_u (gh_u m 12 (((m 5 5) * 4) + (m 11 (m 5 5))) v1) 11 (m 5 5) ((m 11 (m 5 5)) + 1))) ∧ (¬ ((m 11 (m 5 5)) < 4) → Q 0 m))
theorem s_Reader_push {E : gh_E} {m : gh_M} {Q : Int → gh_M → Prop} (d : Nat) (v1 : Int) (hF : gh_F m) (h : w_Reader_push v1 m Q) : gh_C E gh_yReader_push prog_9_method_10_code 2 none 9 (d + 0) [(2, 5), (0, v1)] m (fun r m1 => gh_F m1 ∧ Q r m1) := by
  refine gh_enter2 (L := [(0, 2, 5), (1, 0, v1)]) (by decide +kernel) gh_rt9 (Nat.le_of_ble_eq_true rfl) rfl rfl ?_
  unfold w_Reader_push at h
  refine gh_aload_n gd_Reader_push_0 0 rfl (by decide) ?_
  refine gf_5_7 gd_Reader_push_1 gh_k151 hF ?_
  refine gh_aload_n gd_Reader_push_4 0 rfl (by decide) ?_
  refine gf_5_5 gd_Reader_push_5 gh_k149 hF rfl ?_
  obtain ⟨q316, h⟩ := h
  obtain ⟨q317, h⟩ := h
  refine la_11 gd_Reader_push_8 hF q316 q317 rfl ?_
  refine gh_iconst gd_Reader_push_9 (gh_r0 rfl) ?_
  obtain ⟨hA, hB⟩ := h
  refine gh_jge (tgt := 48) gd_Reader_push_10 (by decide) (fun c318 => ?_) (fun c318 => ?_)
  · have h := hA c318
    refine gh_aload_n gd_Reader_push_13 0 rfl (by decide) ?_
    refine gf_5_8 gd_Reader_push_14 gh_k152 hF ?_
    refine gh_aload_n gd_Reader_push_17 0 rfl (by decide) ?_
    refine gf_5_5 gd_Reader_push_18 gh_k149 hF rfl ?_
    refine gh_iconst gd_Reader_push_21 (gh_r0 rfl) ?_
    obtain ⟨q319, h⟩ := h
    refine gh_imul gd_Reader_push_22 q319 ?_
    refine gh_aload_n gd_Reader_push_23 0 rfl (by decide) ?_
    refine gf_5_7 gd_Reader_push_24 gh_k151 hF ?_
    refine gh_aload_n gd_Reader_push_27 0 rfl (by decide) ?_
    refine gf_5_5 gd_Reader_push_28 gh_k149 hF rfl ?_
    obtain ⟨q320, h⟩ := h
    obtain ⟨q321, h⟩ := h
    refine la_11 gd_Reader_push_31 hF q320 q321 rfl ?_
    obtain ⟨q322, h⟩ := h
    refine gh_iadd gd_Reader_push_32 q322 ?_
    refine gh_iload_n gd_Reader_push_33 1 rfl ?_
    obtain ⟨q323, h⟩ := h
    obtain ⟨q324, h⟩ := h
    refine sa_12 gd_Reader_push_34 hF q323 q324 (fun hF => ?_)
    refine gh_aload_n gd_Reader_push_35 0 rfl (by decide) ?_
    refine gf_5_7 gd_Reader_push_36 gh_k151 hF ?_
    refine gh_aload_n gd_Reader_push_39 0 rfl (by decide) ?_
    refine gf_5_5 gd_Reader_push_40 gh_k149 hF (gh_u_a (by decide)) ?_
    refine gh_dup2 gd_Reader_push_43 (by decide) (by decide) ?_
    obtain ⟨q325, h⟩ := h
    obtain ⟨q326, h⟩ := h
    refine la_11 gd_Reader_push_44 hF q325 q326 (gh_u_a (by decide)) ?_
    refine gh_iconst gd_Reader_push_45 (gh_r0 rfl) ?_
    obtain ⟨q327, h⟩ := h
    refine gh_iadd gd_Reader_push_46 q327 ?_
    obtain ⟨q328, h⟩ := h
    obtain ⟨q329, h⟩ := h
    refine sa_11 gd_Reader_push_47 hF q328 q329 (fun hF => ?_)
    exact gh_ret9 rfl gd_Reader_push_48 ⟨hF, h⟩
  · have h := hB c318
    exact gh_ret9 rfl gd_Reader_push_48 ⟨hF, h⟩
def f_Tape_setOfClass_13 (Q : Int → Prop) (m : gh_M) (K13 : Int → Int → Prop) (v1 : Int) (v2 : Int) : Prop := gh_i ((m 3 3) + 3) ∧ k_Tape_signAt ((m 3 3) + 3) m ∧ ((v2 ≤ (x_Tape_signAt ((m 3 3) + 3) m) → gh_i (v2 - 97) ∧ ∀ v1' : Int, v1' = gh_ior_f v1 (gh_ishl_f 1 (v2 - 97)) → gh_i (v2 + 1) ∧ K13 v1' (v2 + 1)) ∧ (¬ (v2 ≤ (x_Tape_signAt ((m 3 3) + 3) m)) → Q v1))
def w_Tape_setOfClass (m : gh_M) (Q : Int → Prop) : Prop := gh_i ((m 3 3) + 1) ∧ k_Tape_signAt ((m 3 3) + 1) m ∧ ∀ v2 : Int, v2 = x_Tape_signAt ((m 3 3) + 1) m → gh_L2 (fun K13 v1 v2 => f_Tape_setOfClass_13 Q m K13 v1 v2) 0 v2
theorem b_Tape_setOfClass_13 {E : gh_E} {Q : Int → Prop} {K13 : Int → Int → Prop} (d : Nat) {m : gh_M} (hK : ∀ (v1 : Int) (v2 : Int), gh_F m → K13 v1 v2 → gh_T E (gh_yTape_setOfClass.cls, prog_10_method_17_code, 3, false, 0) (d + 1) 13 [(0, 2, 3), (1, 0, v1), (2, 0, v2)] [] m (fun r m1 => m1 = m ∧ Q r)) (v1 : Int) (v2 : Int) (hF : gh_F m) (h : f_Tape_setOfClass_13 Q m K13 v1 v2) : gh_T E (gh_yTape_setOfClass.cls, prog_10_method_17_code, 3, false, 0) (d + 1) 13 [(0, 2, 3), (1, 0, v1), (2, 0, v2)] [] m (fun r m1 => m1 = m ∧ Q r) := by
  have hK13 := hK
  unfold f_Tape_setOfClass_13 at h
  refine gh_iload_n gd_Tape_setOfClass_13 2 rfl ?_
  refine gh_aload_n gd_Tape_setOfClass_14 0 rfl (by decide) ?_
  refine gh_aload_n gd_Tape_setOfClass_15 0 rfl (by decide) ?_
  refine gf_3_3 gd_Tape_setOfClass_16 gh_k91 hF rfl ?_
  refine gh_iconst gd_Tape_setOfClass_19 (gh_r0 rfl) ?_
  obtain ⟨q332, h⟩ := h
  refine gh_iadd gd_Tape_setOfClass_20 q332 ?_
  obtain ⟨q333, h⟩ := h
  refine cv_Tape_signAt (d := d) gd_Tape_setOfClass_21 gh_k594 hF (Nat.le_of_ble_eq_true rfl) (gh_C.pe (e_Tape_signAt d ((m 3 3) + 3) hF q333) ?_)
  obtain ⟨hA, hB⟩ := h
  refine gh_jgt (tgt := 42) gd_Tape_setOfClass_24 (by decide) (fun c334 => ?_) (fun c334 => ?_)
  · have h := hA c334
    refine gh_iload_n gd_Tape_setOfClass_27 1 rfl ?_
    refine gh_iconst gd_Tape_setOfClass_28 (gh_r0 rfl) ?_
    refine gh_iload_n gd_Tape_setOfClass_29 2 rfl ?_
    refine gh_bipush gd_Tape_setOfClass_30 (by decide) (gh_r0 rfl) ?_
    obtain ⟨q335, h⟩ := h
    refine gh_isub gd_Tape_setOfClass_32 q335 ?_
    refine gh_ishl gd_Tape_setOfClass_33 ?_
    refine gh_ior gd_Tape_setOfClass_34 ?_
    refine gh_name (fun v1' hn => ?_)
    have h := h v1' hn
    refine gh_istore_n (L2 := [(1, 0, v1'), (0, 2, 3), (2, 0, v2)]) gd_Tape_setOfClass_35 (by decide) rfl ?_
    obtain ⟨q336, h⟩ := h
    refine gh_iinc (L2 := [(2, 0, v2 + 1), (1, 0, v1'), (0, 2, 3)]) gd_Tape_setOfClass_36 2 rfl q336 (by decide) rfl ?_
    refine gh_goto (tgt := 13) gd_Tape_setOfClass_39 (by decide) ?_
    refine gh_pick (L2 := [(0, 2, 3), (1, 0, v1'), (2, 0, v2 + 1)]) [2, 1, 0] rfl ?_
    exact hK13 v1' (v2 + 1) hF h
  · have h := hB c334
    refine gh_iload_n gd_Tape_setOfClass_42 1 rfl ?_
    exact gh_ret0 rfl gd_Tape_setOfClass_43 ⟨rfl, h⟩
theorem s_Tape_setOfClass {E : gh_E} {m : gh_M} {Q : Int → Prop} (d : Nat) (hF : gh_F m) (h : w_Tape_setOfClass m Q) : gh_C E gh_yTape_setOfClass prog_10_method_17_code 3 (some .int) 0 (d + 1) [(2, 3)] m (fun r m1 => m1 = m ∧ Q r) := by
  refine gh_enter2 (L := [(0, 2, 3)]) (by decide +kernel) gh_rt0 (Nat.le_of_ble_eq_true rfl) rfl rfl ?_
  unfold w_Tape_setOfClass at h
  refine gh_iconst gd_Tape_setOfClass_0 (gh_r0 rfl) ?_
  refine gh_istore_n (L2 := [(1, 0, 0), (0, 2, 3)]) gd_Tape_setOfClass_1 (by decide) rfl ?_
  refine gh_aload_n gd_Tape_setOfClass_2 1 rfl (by decide) ?_
  refine gh_aload_n gd_Tape_setOfClass_3 1 rfl (by decide) ?_
  refine gf_3_3 gd_Tape_setOfClass_4 gh_k91 hF rfl ?_
  refine gh_iconst gd_Tape_setOfClass_7 (gh_r0 rfl) ?_
  obtain ⟨q330, h⟩ := h
  refine gh_iadd gd_Tape_setOfClass_8 q330 ?_
  obtain ⟨q331, h⟩ := h
  refine cv_Tape_signAt (d := d) gd_Tape_setOfClass_9 gh_k594 hF (Nat.le_of_ble_eq_true rfl) (gh_C.pe (e_Tape_signAt d ((m 3 3) + 1) hF q331) ?_)
  refine gh_name (fun v2 hn => ?_)
  have h := h v2 hn
  refine gh_istore_n (L2 := [(2, 0, v2), (1, 0, 0), (0, 2, 3)]) gd_Tape_setOfClass_12 (by decide) rfl ?_
  refine gh_pick (L2 := [(0, 2, 3), (1, 0, 0), (2, 0, v2)]) [2, 1, 0] rfl ?_
  exact gh_L2_sound (T := fun v1 v2 => gh_T E (gh_yTape_setOfClass.cls, prog_10_method_17_code, 3, false, 0) (d + 1) 13 [(0, 2, 3), (1, 0, v1), (2, 0, v2)] [] m (fun r m1 => m1 = m ∧ Q r)) (fun _ _ => gh_F m) (fun K13 v1 v2 hK hF h => b_Tape_setOfClass_13 d hK v1 v2 hF h) 0 v2 hF h
def f_Reader_takeWord_81 (J110 : gh_M → Prop) (K81 : Int → gh_M → Prop) (v1 : Int) (m : gh_M) : Prop := k_Tape_width m ∧ ((v1 < (x_Tape_width m) → k_Tape_setOfQuote v1 m ∧ w_Reader_push (x_Tape_setOfQuote v1 m) m (fun _ m358 => gh_i (v1 + 1) ∧ K81 (v1 + 1) m358)) ∧ (¬ (v1 < (x_Tape_width m)) → J110 m))
def w_Reader_takeWord (m : gh_M) (Q : Int → gh_M → Prop) : Prop := (((m 5 4) = 0 → w_Tape_key m (fun r338 => w_Draft_tell r338 m (fun _ m341 => Q 0 (gh_u m341 5 4 1)))) ∧ (¬ ((m 5 4) = 0) → ∃ J110 : gh_M → Prop, (∀ (m : gh_M), J110 m → k_Tape_width m ∧ Q 0 (gh_u m 5 6 (x_Tape_width m))) ∧ (((m 3 2) = 1 → w_Tape_key m (fun r344 => gh_i ((-1) - r344) ∧ w_Reader_push ((-1) - r344) m (fun _ m348 => J110 m348))) ∧ (¬ ((m 3 2) = 1) → (((m 3 2) = 3 → w_Tape_setOfClass m (fun r350 => w_Reader_push r350 m (fun _ m353 => J110 m353))) ∧ (¬ ((m 3 2) = 3) → gh_M1 (fun K81 v1 m => f_Reader_takeWord_81 J110 K81 v1 m) 0 m))))))
theorem b_Reader_takeWord_81 {E : gh_E} {J110 : gh_M → Prop} {Q : Int → gh_M → Prop} {K81 : Int → gh_M → Prop} (d : Nat) (hJ110 : ∀ (m : gh_M), gh_F m → J110 m → gh_T E (gh_yReader_takeWord.cls, prog_9_method_8_code, 2, false, 9) (d + 2) 110 [(0, 2, 5)] [] m (fun r m1 => gh_F m1 ∧ Q r m1)) (hK : ∀ (v1 : Int) (m : gh_M), gh_F m → K81 v1 m → gh_T E (gh_yReader_takeWord.cls, prog_9_method_8_code, 2, false, 9) (d + 2) 81 [(0, 2, 5), (1, 0, v1)] [] m (fun r m1 => gh_F m1 ∧ Q r m1)) (v1 : Int) (m : gh_M) (hF : gh_F m) (h : f_Reader_takeWord_81 J110 K81 v1 m) : gh_T E (gh_yReader_takeWord.cls, prog_9_method_8_code, 2, false, 9) (d + 2) 81 [(0, 2, 5), (1, 0, v1)] [] m (fun r m1 => gh_F m1 ∧ Q r m1) := by
  have hK81 := hK
  unfold f_Reader_takeWord_81 at h
  refine gh_iload_n gd_Reader_takeWord_81 1 rfl ?_
  refine gh_aload_n gd_Reader_takeWord_82 0 rfl (by decide) ?_
  refine gf_5_3 gd_Reader_takeWord_83 gh_k147 hF ?_
  obtain ⟨q354, h⟩ := h
  refine cv_Tape_width (d := d + 1) gd_Reader_takeWord_86 gh_k643 hF (Nat.le_of_ble_eq_true rfl) (gh_C.pe (e_Tape_width (d + 1)  hF q354) ?_)
  obtain ⟨hA, hB⟩ := h
  refine gh_jge (tgt := 110) gd_Reader_takeWord_89 (by decide) (fun c355 => ?_) (fun c355 => ?_)
  · have h := hA c355
    refine gh_aload_n gd_Reader_takeWord_92 0 rfl (by decide) ?_
    refine gh_aload_n gd_Reader_takeWord_93 0 rfl (by decide) ?_
    refine gf_5_3 gd_Reader_takeWord_94 gh_k147 hF ?_
    refine gh_iload_n gd_Reader_takeWord_97 1 rfl ?_
    obtain ⟨q356, h⟩ := h
    refine cv_Tape_setOfQuote (d := d + 1) gd_Reader_takeWord_98 gh_k667 hF (Nat.le_of_ble_eq_true rfl) (gh_C.pe (e_Tape_setOfQuote d v1 hF q356) ?_)
    refine cv_Reader_push (d := d + 1) gd_Reader_takeWord_101 gh_k659 hF (Nat.le_of_ble_eq_true rfl) (gh_C.mono (s_Reader_push (d + 1) (x_Tape_setOfQuote v1 m) hF h) (fun r357 m358 hq => ?_))
    obtain ⟨hF, h⟩ := hq
    obtain ⟨q359, h⟩ := h
    refine gh_iinc (L2 := [(1, 0, v1 + 1), (0, 2, 5)]) gd_Reader_takeWord_104 1 rfl q359 (by decide) rfl ?_
    refine gh_goto (tgt := 81) gd_Reader_takeWord_107 (by decide) ?_
    refine gh_pick (L2 := [(0, 2, 5), (1, 0, v1 + 1)]) [1, 0] rfl ?_
    exact hK81 (v1 + 1) m358 hF h
  · have h := hB c355
    refine gh_pick (L2 := [(0, 2, 5)]) [0] rfl ?_
    exact hJ110 m hF h
theorem s_Reader_takeWord {E : gh_E} {m : gh_M} {Q : Int → gh_M → Prop} (d : Nat) (hF : gh_F m) (h : w_Reader_takeWord m Q) : gh_C E gh_yReader_takeWord prog_9_method_8_code 2 none 9 (d + 2) [(2, 5)] m (fun r m1 => gh_F m1 ∧ Q r m1) := by
  refine gh_enter2 (L := [(0, 2, 5)]) (by decide +kernel) gh_rt9 (Nat.le_of_ble_eq_true rfl) rfl rfl ?_
  unfold w_Reader_takeWord at h
  refine gh_aload_n gd_Reader_takeWord_0 0 rfl (by decide) ?_
  refine gf_5_4 gd_Reader_takeWord_1 gh_k148 hF rfl ?_
  obtain ⟨hA, hB⟩ := h
  refine gh_zne (tgt := 27) gd_Reader_takeWord_4 (by decide) (fun c337 => ?_) (fun c337 => ?_)
  · have h := hA c337
    refine gh_aload_n gd_Reader_takeWord_7 0 rfl (by decide) ?_
    refine gf_5_0 gd_Reader_takeWord_8 gh_k141 hF ?_
    refine gh_aload_n gd_Reader_takeWord_11 0 rfl (by decide) ?_
    refine gf_5_3 gd_Reader_takeWord_12 gh_k147 hF ?_
    refine cv_Tape_key (d := d + 1) gd_Reader_takeWord_15 gh_k635 hF (Nat.le_of_ble_eq_true rfl) (gh_C.pw (s_Tape_key d hF h) (fun r338 h => ?_))
    refine cv_Draft_tell (d := d + 1) gd_Reader_takeWord_18 gh_k655 hF (Nat.le_of_ble_eq_true rfl) (gh_C.mono (s_Draft_tell (d + 1) r338 hF h) (fun r340 m341 hq => ?_))
    obtain ⟨hF, h⟩ := hq
    refine gh_aload_n gd_Reader_takeWord_21 0 rfl (by decide) ?_
    refine gh_iconst gd_Reader_takeWord_22 (gh_r0 rfl) ?_
    refine pf_5_4 gd_Reader_takeWord_23 gh_k148 hF (fun hF => ?_)
    exact gh_ret9 rfl gd_Reader_takeWord_26 ⟨hF, h⟩
  · have h := hB c337
    refine gh_aload_n gd_Reader_takeWord_27 0 rfl (by decide) ?_
    refine gf_5_3 gd_Reader_takeWord_28 gh_k147 hF ?_
    refine gf_3_2 gd_Reader_takeWord_31 gh_k88 hF rfl ?_
    refine gh_iconst gd_Reader_takeWord_34 (gh_r0 rfl) ?_
    obtain ⟨J110, hJ110, h⟩ := h
    have hJ110 : ∀ (m : gh_M), gh_F m → J110 m → gh_T E (gh_yReader_takeWord.cls, prog_9_method_8_code, 2, false, 9) (d + 2) 110 [(0, 2, 5)] [] m (fun r m1 => gh_F m1 ∧ Q r m1) := by
      intro m hF hj
      have h := hJ110 m hj
      refine gh_aload_n gd_Reader_takeWord_110 0 rfl (by decide) ?_
      refine gh_aload_n gd_Reader_takeWord_111 0 rfl (by decide) ?_
      refine gf_5_3 gd_Reader_takeWord_112 gh_k147 hF ?_
      obtain ⟨q342, h⟩ := h
      refine cv_Tape_width (d := d + 1) gd_Reader_takeWord_115 gh_k643 hF (Nat.le_of_ble_eq_true rfl) (gh_C.pe (e_Tape_width (d + 1)  hF q342) ?_)
      refine pf_5_6 gd_Reader_takeWord_118 gh_k150 hF (fun hF => ?_)
      exact gh_ret9 rfl gd_Reader_takeWord_121 ⟨hF, h⟩
    obtain ⟨hA, hB⟩ := h
    refine gh_jne (tgt := 54) gd_Reader_takeWord_35 (by decide) (fun c343 => ?_) (fun c343 => ?_)
    · have h := hA c343
      refine gh_aload_n gd_Reader_takeWord_38 0 rfl (by decide) ?_
      refine gh_iconst gd_Reader_takeWord_39 (gh_r0 rfl) ?_
      refine gh_aload_n gd_Reader_takeWord_40 0 rfl (by decide) ?_
      refine gf_5_3 gd_Reader_takeWord_41 gh_k147 hF ?_
      refine cv_Tape_key (d := d + 1) gd_Reader_takeWord_44 gh_k635 hF (Nat.le_of_ble_eq_true rfl) (gh_C.pw (s_Tape_key d hF h) (fun r344 h => ?_))
      obtain ⟨q346, h⟩ := h
      refine gh_isub gd_Reader_takeWord_47 q346 ?_
      refine cv_Reader_push (d := d + 1) gd_Reader_takeWord_48 gh_k659 hF (Nat.le_of_ble_eq_true rfl) (gh_C.mono (s_Reader_push (d + 1) ((-1) - r344) hF h) (fun r347 m348 hq => ?_))
      obtain ⟨hF, h⟩ := hq
      refine gh_goto (tgt := 110) gd_Reader_takeWord_51 (by decide) ?_
      exact hJ110 m348 hF h
    · have h := hB c343
      refine gh_aload_n gd_Reader_takeWord_54 0 rfl (by decide) ?_
      refine gf_5_3 gd_Reader_takeWord_55 gh_k147 hF ?_
      refine gf_3_2 gd_Reader_takeWord_58 gh_k88 hF rfl ?_
      refine gh_iconst gd_Reader_takeWord_61 (gh_r0 rfl) ?_
      obtain ⟨hA, hB⟩ := h
      refine gh_jne (tgt := 79) gd_Reader_takeWord_62 (by decide) (fun c349 => ?_) (fun c349 => ?_)
      · have h := hA c349
        refine gh_aload_n gd_Reader_takeWord_65 0 rfl (by decide) ?_
        refine gh_aload_n gd_Reader_takeWord_66 0 rfl (by decide) ?_
        refine gf_5_3 gd_Reader_takeWord_67 gh_k147 hF ?_
        refine cv_Tape_setOfClass (d := d + 1) gd_Reader_takeWord_70 gh_k663 hF (Nat.le_of_ble_eq_true rfl) (gh_C.pw (s_Tape_setOfClass d hF h) (fun r350 h => ?_))
        refine cv_Reader_push (d := d + 1) gd_Reader_takeWord_73 gh_k659 hF (Nat.le_of_ble_eq_true rfl) (gh_C.mono (s_Reader_push (d + 1) r350 hF h) (fun r352 m353 hq => ?_))
        obtain ⟨hF, h⟩ := hq
        refine gh_goto (tgt := 110) gd_Reader_takeWord_76 (by decide) ?_
        exact hJ110 m353 hF h
      · have h := hB c349
        refine gh_iconst gd_Reader_takeWord_79 (gh_r0 rfl) ?_
        refine gh_istore_n (L2 := [(1, 0, 0), (0, 2, 5)]) gd_Reader_takeWord_80 (by decide) rfl ?_
        refine gh_pick (L2 := [(0, 2, 5), (1, 0, 0)]) [1, 0] rfl ?_
        exact gh_M1_sound (T := fun v1 m => gh_T E (gh_yReader_takeWord.cls, prog_9_method_8_code, 2, false, 9) (d + 2) 81 [(0, 2, 5), (1, 0, v1)] [] m (fun r m1 => gh_F m1 ∧ Q r m1)) (fun _ m => gh_F m) (fun K81 v1 m hK hF h => b_Reader_takeWord_81 d hJ110 hK v1 m hF h) 0 m hF h
def w_Reader_startRow (m : gh_M) (Q : Int → gh_M → Prop) : Prop := 0 ≤ m 5 5 ∧ (m 5 5) < 4 ∧ Q 0 (gh_u (gh_u m 11 (m 5 5) 0) 5 6 0)
theorem s_Reader_startRow {E : gh_E} {m : gh_M} {Q : Int → gh_M → Prop} (d : Nat) (hF : gh_F m) (h : w_Reader_startRow m Q) : gh_C E gh_yReader_startRow prog_9_method_9_code 1 none 9 (d + 0) [(2, 5)] m (fun r m1 => gh_F m1 ∧ Q r m1) := by
  refine gh_enter2 (L := [(0, 2, 5)]) (by decide +kernel) gh_rt9 (Nat.le_of_ble_eq_true rfl) rfl rfl ?_
  unfold w_Reader_startRow at h
  refine gh_aload_n gd_Reader_startRow_0 0 rfl (by decide) ?_
  refine gf_5_7 gd_Reader_startRow_1 gh_k151 hF ?_
  refine gh_aload_n gd_Reader_startRow_4 0 rfl (by decide) ?_
  refine gf_5_5 gd_Reader_startRow_5 gh_k149 hF rfl ?_
  refine gh_iconst gd_Reader_startRow_8 (gh_r0 rfl) ?_
  obtain ⟨q360, h⟩ := h
  obtain ⟨q361, h⟩ := h
  refine sa_11 gd_Reader_startRow_9 hF q360 q361 (fun hF => ?_)
  refine gh_aload_n gd_Reader_startRow_10 0 rfl (by decide) ?_
  refine gh_iconst gd_Reader_startRow_11 (gh_r0 rfl) ?_
  refine pf_5_6 gd_Reader_startRow_12 gh_k150 hF (fun hF => ?_)
  exact gh_ret9 rfl gd_Reader_startRow_15 ⟨hF, h⟩
def f_Draft_add_12_70 (v1 : Int) (v4 : Int) (v5 : Int) (v6 : Int) (v7 : Int) (Q : Int → gh_M → Prop) (K70 : Int → gh_M → Prop) (v8 : Int) (m : gh_M) : Prop := ((v8 < v5 → gh_i (v7 + v6) ∧ gh_i ((v7 + v6) + v8) ∧ gh_i (v4 + v8) ∧ 0 ≤ v4 + v8 ∧ (v4 + v8) < 16 ∧ 0 ≤ (v7 + v6) + v8 ∧ ((v7 + v6) + v8) < 80 ∧ gh_i (v8 + 1) ∧ K70 (v8 + 1) (gh_u m 10 ((v7 + v6) + v8) (m 12 (v4 + v8)))) ∧ (¬ (v8 < v5) → 0 ≤ m 6 3 ∧ (m 6 3) < 20 ∧ gh_i (v6 + v5) ∧ 0 ≤ m 6 3 ∧ (m 6 3) < 20 ∧ gh_i ((m 6 3) + 1) ∧ Q 0 (gh_u (gh_u (gh_u m 8 (m 6 3) v1) 9 (m 6 3) (v6 + v5)) 6 3 ((m 6 3) + 1))))
def w_Draft_add_12 (v1 : Int) (v2 : Int) (v4 : Int) (v5 : Int) (m : gh_M) (Q : Int → gh_M → Prop) : Prop := ∀ v6 : Int, v6 = (if (¬ (v2 = 0)) then (1:Int) else 0) → ((((m 6 3) < 20) → (gh_i (v6 + v5) ∧ (((v6 + v5) ≤ 4) → ((¬ (v4 < 0) → (gh_i (v4 + v5)))))))) ∧ (((((m 6 3) < 20) ∧ (((v6 + v5) ≤ 4) ∧ (¬ (v4 < 0) ∧ ((v4 + v5) ≤ 16)))) → gh_i ((m 6 3) * 4) ∧ ∀ v7 : Int, v7 = (m 6 3) * 4 → ∃ J67 : gh_M → Prop, (∀ (m : gh_M), J67 m → gh_M1 (fun K70 v8 m => f_Draft_add_12_70 v1 v4 v5 v6 v7 Q K70 v8 m) 0 m) ∧ ((v6 = 1 → 0 ≤ v7 ∧ v7 < 80 ∧ J67 (gh_u m 10 v7 v2)) ∧ (¬ (v6 = 1) → J67 m))) ∧ (¬ (((m 6 3) < 20) ∧ (((v6 + v5) ≤ 4) ∧ (¬ (v4 < 0) ∧ ((v4 + v5) ≤ 16)))) → Q 0 m))
theorem b_Draft_add_12_70 {E : gh_E} {v1 : Int} {v4 : Int} {v5 : Int} {v6 : Int} {v7 : Int} {Q : Int → gh_M → Prop} {K70 : Int → gh_M → Prop} (d : Nat) (hK : ∀ (v8 : Int) (m : gh_M), gh_F m → K70 v8 m → gh_T E (gh_yDraft_add.cls, prog_3_method_9_code, 9, false, 9) (d + 0) 70 [(0, 2, 6), (1, 0, v1), (3, 2, 12), (4, 0, v4), (5, 0, v5), (6, 0, v6), (7, 0, v7), (8, 0, v8)] [] m (fun r m1 => gh_F m1 ∧ Q r m1)) (v8 : Int) (m : gh_M) (hF : gh_F m) (h : f_Draft_add_12_70 v1 v4 v5 v6 v7 Q K70 v8 m) : gh_T E (gh_yDraft_add.cls, prog_3_method_9_code, 9, false, 9) (d + 0) 70 [(0, 2, 6), (1, 0, v1), (3, 2, 12), (4, 0, v4), (5, 0, v5), (6, 0, v6), (7, 0, v7), (8, 0, v8)] [] m (fun r m1 => gh_F m1 ∧ Q r m1) := by
  have hK70 := hK
  unfold f_Draft_add_12_70 at h
  refine gh_iload gd_Draft_add_70 7 rfl ?_
  refine gh_iload gd_Draft_add_72 4 rfl ?_
  obtain ⟨hA, hB⟩ := h
  refine gh_jge (tgt := 103) gd_Draft_add_74 (by decide) (fun c380 => ?_) (fun c380 => ?_)
  · have h := hA c380
    refine gh_aload_n gd_Draft_add_77 0 rfl (by decide) ?_
    refine gf_6_6 gd_Draft_add_78 gh_k125 hF ?_
    refine gh_iload gd_Draft_add_81 6 rfl ?_
    refine gh_iload gd_Draft_add_83 5 rfl ?_
    obtain ⟨q381, h⟩ := h
    refine gh_iadd gd_Draft_add_85 q381 ?_
    refine gh_iload gd_Draft_add_86 7 rfl ?_
    obtain ⟨q382, h⟩ := h
    refine gh_iadd gd_Draft_add_88 q382 ?_
    refine gh_aload_n gd_Draft_add_89 2 rfl (by decide) ?_
    refine gh_iload gd_Draft_add_90 3 rfl ?_
    refine gh_iload gd_Draft_add_92 7 rfl ?_
    obtain ⟨q383, h⟩ := h
    refine gh_iadd gd_Draft_add_94 q383 ?_
    obtain ⟨q384, h⟩ := h
    obtain ⟨q385, h⟩ := h
    refine la_12 gd_Draft_add_95 hF q384 q385 rfl ?_
    obtain ⟨q386, h⟩ := h
    obtain ⟨q387, h⟩ := h
    refine sa_10 gd_Draft_add_96 hF q386 q387 (fun hF => ?_)
    obtain ⟨q388, h⟩ := h
    refine gh_iinc (L2 := [(8, 0, v8 + 1), (0, 2, 6), (1, 0, v1), (3, 2, 12), (4, 0, v4), (5, 0, v5), (6, 0, v6), (7, 0, v7)]) gd_Draft_add_97 7 rfl q388 (by decide) rfl ?_
    refine gh_goto (tgt := 70) gd_Draft_add_100 (by decide) ?_
    refine gh_pick (L2 := [(0, 2, 6), (1, 0, v1), (3, 2, 12), (4, 0, v4), (5, 0, v5), (6, 0, v6), (7, 0, v7), (8, 0, v8 + 1)]) [1, 2, 3, 4, 5, 6, 7, 0] rfl ?_
    exact hK70 (v8 + 1) (gh_u m 10 ((v7 + v6) + v8) (m 12 (v4 + v8))) hF h
  · have h := hB c380
    refine gh_aload_n gd_Draft_add_103 0 rfl (by decide) ?_
    refine gf_6_4 gd_Draft_add_104 gh_k123 hF ?_
    refine gh_aload_n gd_Draft_add_107 0 rfl (by decide) ?_
    refine gf_6_3 gd_Draft_add_108 gh_k121 hF rfl ?_
    refine gh_iload_n gd_Draft_add_111 1 rfl ?_
    obtain ⟨q389, h⟩ := h
    obtain ⟨q390, h⟩ := h
    refine sa_8 gd_Draft_add_112 hF q389 q390 (fun hF => ?_)
    refine gh_aload_n gd_Draft_add_113 0 rfl (by decide) ?_
    refine gf_6_5 gd_Draft_add_114 gh_k124 hF ?_
    refine gh_aload_n gd_Draft_add_117 0 rfl (by decide) ?_
    refine gf_6_3 gd_Draft_add_118 gh_k121 hF (gh_u_a (by decide)) ?_
    refine gh_iload gd_Draft_add_121 5 rfl ?_
    refine gh_iload gd_Draft_add_123 4 rfl ?_
    obtain ⟨q391, h⟩ := h
    refine gh_iadd gd_Draft_add_125 q391 ?_
    obtain ⟨q392, h⟩ := h
    obtain ⟨q393, h⟩ := h
    refine sa_9 gd_Draft_add_126 hF q392 q393 (fun hF => ?_)
    refine gh_aload_n gd_Draft_add_127 0 rfl (by decide) ?_
    refine gh_dup gd_Draft_add_128 (by decide) ?_
    refine gf_6_3 gd_Draft_add_129 gh_k121 hF ((gh_u_a (by decide)).trans (gh_u_a (by decide))) ?_
    refine gh_iconst gd_Draft_add_132 (gh_r0 rfl) ?_
    obtain ⟨q394, h⟩ := h
    refine gh_iadd gd_Draft_add_133 q394 ?_
    refine pf_6_3 gd_Draft_add_134 gh_k121 hF (fun hF => ?_)
    exact gh_ret9 rfl gd_Draft_add_137 ⟨hF, h⟩
theorem s_Draft_add_12 {E : gh_E} {m : gh_M} {Q : Int → gh_M → Prop} (d : Nat) (v1 : Int) (v2 : Int) (v4 : Int) (v5 : Int) (hF : gh_F m) (h : w_Draft_add_12 v1 v2 v4 v5 m Q) : gh_C E gh_yDraft_add prog_3_method_9_code 9 none 9 (d + 0) [(2, 6), (0, v1), (0, v2), (2, 12), (0, v4), (0, v5)] m (fun r m1 => gh_F m1 ∧ Q r m1) := by
  refine gh_enter2 (L := [(0, 2, 6), (1, 0, v1), (2, 0, v2), (3, 2, 12), (4, 0, v4), (5, 0, v5)]) (by decide +kernel) gh_rt9 (Nat.le_of_ble_eq_true rfl) rfl rfl ?_
  unfold w_Draft_add_12 at h
  refine gh_iload_n gd_Draft_add_0 2 rfl ?_
  have k373 : ∀ x374 : Int, x374 = (if (¬ (v2 = 0)) then (1:Int) else 0) → gh_T E (gh_yDraft_add.cls, prog_3_method_9_code, 9, false, 9) (d + 0) 9 [(0, 2, 6), (1, 0, v1), (2, 0, v2), (3, 2, 12), (4, 0, v4), (5, 0, v5)] [(0, x374)] m (fun r m1 => gh_F m1 ∧ Q r m1) := by
    rintro _ rfl
    refine gh_name (fun v6 hn => ?_)
    have h := h v6 hn
    refine gh_istore (L2 := [(6, 0, v6), (0, 2, 6), (1, 0, v1), (2, 0, v2), (3, 2, 12), (4, 0, v4), (5, 0, v5)]) gd_Draft_add_9 (by decide) rfl ?_
    refine gh_aload_n gd_Draft_add_11 1 rfl (by decide) ?_
    refine gf_6_3 gd_Draft_add_12 gh_k121 hF rfl ?_
    refine gh_bipush gd_Draft_add_15 (by decide) (gh_r0 rfl) ?_
    obtain ⟨hk, hA, hB⟩ := h
    have k377 : (((m 6 3) < 20) ∧ (((v6 + v5) ≤ 4) ∧ (¬ (v4 < 0) ∧ ((v4 + v5) ≤ 16)))) → gh_T E (gh_yDraft_add.cls, prog_3_method_9_code, 9, false, 9) (d + 0) 45 [(6, 0, v6), (0, 2, 6), (1, 0, v1), (2, 0, v2), (3, 2, 12), (4, 0, v4), (5, 0, v5)] [] m (fun r m1 => gh_F m1 ∧ Q r m1) := by
      intro c
      have h := hA c
      refine gh_aload_n gd_Draft_add_45 1 rfl (by decide) ?_
      refine gf_6_3 gd_Draft_add_46 gh_k121 hF rfl ?_
      refine gh_iconst gd_Draft_add_49 (gh_r0 rfl) ?_
      obtain ⟨q379, h⟩ := h
      refine gh_imul gd_Draft_add_50 q379 ?_
      refine gh_name (fun v7 hn => ?_)
      have h := h v7 hn
      refine gh_istore (L2 := [(7, 0, v7), (6, 0, v6), (0, 2, 6), (1, 0, v1), (2, 0, v2), (3, 2, 12), (4, 0, v4), (5, 0, v5)]) gd_Draft_add_51 (by decide) rfl ?_
      refine gh_iload gd_Draft_add_53 1 rfl ?_
      refine gh_iconst gd_Draft_add_55 (gh_r0 rfl) ?_
      obtain ⟨J67, hJ67, h⟩ := h
      have hJ67 : ∀ (m : gh_M), gh_F m → J67 m → gh_T E (gh_yDraft_add.cls, prog_3_method_9_code, 9, false, 9) (d + 0) 67 [(0, 2, 6), (1, 0, v1), (3, 2, 12), (4, 0, v4), (5, 0, v5), (6, 0, v6), (7, 0, v7)] [] m (fun r m1 => gh_F m1 ∧ Q r m1) := by
        intro m hF hj
        have h := hJ67 m hj
        refine gh_iconst gd_Draft_add_67 (gh_r0 rfl) ?_
        refine gh_istore (L2 := [(8, 0, 0), (0, 2, 6), (1, 0, v1), (3, 2, 12), (4, 0, v4), (5, 0, v5), (6, 0, v6), (7, 0, v7)]) gd_Draft_add_68 (by decide) rfl ?_
        refine gh_pick (L2 := [(0, 2, 6), (1, 0, v1), (3, 2, 12), (4, 0, v4), (5, 0, v5), (6, 0, v6), (7, 0, v7), (8, 0, 0)]) [1, 2, 3, 4, 5, 6, 7, 0] rfl ?_
        exact gh_M1_sound (T := fun v8 m => gh_T E (gh_yDraft_add.cls, prog_3_method_9_code, 9, false, 9) (d + 0) 70 [(0, 2, 6), (1, 0, v1), (3, 2, 12), (4, 0, v4), (5, 0, v5), (6, 0, v6), (7, 0, v7), (8, 0, v8)] [] m (fun r m1 => gh_F m1 ∧ Q r m1)) (fun _ m => gh_F m) (fun K70 v8 m hK hF h => b_Draft_add_12_70 d hK v8 m hF h) 0 m hF h
      obtain ⟨hA, hB⟩ := h
      refine gh_jne (tgt := 67) gd_Draft_add_56 (by decide) (fun c395 => ?_) (fun c395 => ?_)
      · have h := hA c395
        refine gh_aload_n gd_Draft_add_59 2 rfl (by decide) ?_
        refine gf_6_6 gd_Draft_add_60 gh_k125 hF ?_
        refine gh_iload gd_Draft_add_63 0 rfl ?_
        refine gh_iload_n gd_Draft_add_65 4 rfl ?_
        obtain ⟨q396, h⟩ := h
        obtain ⟨q397, h⟩ := h
        refine sa_10 gd_Draft_add_66 hF q396 q397 (fun hF => ?_)
        refine gh_pick (L2 := [(0, 2, 6), (1, 0, v1), (3, 2, 12), (4, 0, v4), (5, 0, v5), (6, 0, v6), (7, 0, v7)]) [2, 3, 5, 6, 7, 1, 0] rfl ?_
        exact hJ67 (gh_u m 10 v7 v2) hF h
      · have h := hB c395
        refine gh_pick (L2 := [(0, 2, 6), (1, 0, v1), (3, 2, 12), (4, 0, v4), (5, 0, v5), (6, 0, v6), (7, 0, v7)]) [2, 3, 5, 6, 7, 1, 0] rfl ?_
        exact hJ67 m hF h
    have k378 : ¬ (((m 6 3) < 20) ∧ (((v6 + v5) ≤ 4) ∧ (¬ (v4 < 0) ∧ ((v4 + v5) ≤ 16)))) → gh_T E (gh_yDraft_add.cls, prog_3_method_9_code, 9, false, 9) (d + 0) 44 [(6, 0, v6), (0, 2, 6), (1, 0, v1), (2, 0, v2), (3, 2, 12), (4, 0, v4), (5, 0, v5)] [] m (fun r m1 => gh_F m1 ∧ Q r m1) := by
      intro c
      have h := hB c
      exact gh_ret9 rfl gd_Draft_add_44 ⟨hF, h⟩
    refine gh_jge (tgt := 44) gd_Draft_add_17 (by decide) (fun c398 => ?_) (fun c398 => ?_)
    · have hz : True := trivial
      have hk := hk c398
      refine gh_iload gd_Draft_add_20 0 rfl ?_
      refine gh_iload gd_Draft_add_22 6 rfl ?_
      obtain ⟨q375, hk⟩ := hk
      refine gh_iadd gd_Draft_add_24 q375 ?_
      refine gh_iconst gd_Draft_add_25 (gh_r0 rfl) ?_
      refine gh_jgt (tgt := 44) gd_Draft_add_26 (by decide) (fun c399 => ?_) (fun c399 => ?_)
      · have hz : True := trivial
        have hk := hk c399
        refine gh_iload gd_Draft_add_29 5 rfl ?_
        refine gh_zlt (tgt := 44) gd_Draft_add_31 (by decide) (fun c400 => ?_) (fun c400 => ?_)
        · have hz : True := trivial
          exact k378 (fun z => (fun z => (fun z => z.1 c400) z.2) z.2)
        · have hz : True := trivial
          have hk := hk c400
          refine gh_iload gd_Draft_add_34 5 rfl ?_
          refine gh_iload gd_Draft_add_36 6 rfl ?_
          have q376 := hk
          refine gh_iadd gd_Draft_add_38 q376 ?_
          refine gh_aload_n gd_Draft_add_39 4 rfl (by decide) ?_
          refine ll_12 gd_Draft_add_40 hF ?_
          refine gh_jle (tgt := 45) gd_Draft_add_41 (by decide) (fun c401 => ?_) (fun c401 => ?_)
          · have hz : True := trivial
            exact k377 ⟨c398, ⟨c399, ⟨c400, c401⟩⟩⟩
          · have hz : True := trivial
            exact k378 (fun z => (fun z => (fun z => c401 z.2) z.2) z.2)
      · have hz : True := trivial
        exact k378 (fun z => (fun z => c399 z.1) z.2)
    · have hz : True := trivial
      exact k378 (fun z => c398 z.1)
  refine gh_zne (tgt := 8) gd_Draft_add_1 (by decide) (fun c402 => ?_) (fun c402 => ?_)
  · have hz : True := trivial
    refine gh_iconst gd_Draft_add_4 (gh_r0 rfl) ?_
    refine gh_goto (tgt := 9) gd_Draft_add_5 (by decide) ?_
    exact k373 _ (if_neg (c := (¬ (v2 = 0))) (not_not_intro c402)).symm
  · have hz : True := trivial
    refine gh_iconst gd_Draft_add_8 (gh_r0 rfl) ?_
    exact k373 _ (if_pos (c := (¬ (v2 = 0))) c402).symm
def w_Draft_addRow_12 (v1 : Int) (v3 : Int) (v4 : Int) (m : gh_M) (Q : Int → gh_M → Prop) : Prop := (((v1 = 0) → (gh_i ((m 6 1) - 1))) ∧ (¬ (v1 = 0) → (gh_i (16 + v1)))) ∧ w_Draft_add_12 (if v1 = 0 then ((m 6 1) - 1) else (16 + v1)) 0 v3 v4 m (fun _ m372 => Q 0 m372)
theorem s_Draft_addRow_12 {E : gh_E} {m : gh_M} {Q : Int → gh_M → Prop} (d : Nat) (v1 : Int) (v3 : Int) (v4 : Int) (hF : gh_F m) (h : w_Draft_addRow_12 v1 v3 v4 m Q) : gh_C E gh_yDraft_addRow prog_3_method_7_code 5 none 9 (d + 1) [(2, 6), (0, v1), (2, 12), (0, v3), (0, v4)] m (fun r m1 => gh_F m1 ∧ Q r m1) := by
  refine gh_enter2 (L := [(0, 2, 6), (1, 0, v1), (2, 2, 12), (3, 0, v3), (4, 0, v4)]) (by decide +kernel) gh_rt9 (Nat.le_of_ble_eq_true rfl) rfl rfl ?_
  unfold w_Draft_addRow_12 at h
  refine gh_aload_n gd_Draft_addRow_0 0 rfl (by decide) ?_
  refine gh_iload_n gd_Draft_addRow_1 1 rfl ?_
  obtain ⟨hk, h⟩ := h
  have k369 : ∀ x370 : Int, x370 = (if v1 = 0 then ((m 6 1) - 1) else (16 + v1)) → gh_T E (gh_yDraft_addRow.cls, prog_3_method_7_code, 5, false, 9) (d + 1) 18 [(0, 2, 6), (1, 0, v1), (2, 2, 12), (3, 0, v3), (4, 0, v4)] [(0, x370), (2, 6)] m (fun r m1 => gh_F m1 ∧ Q r m1) := by
    rintro _ rfl
    refine gh_iconst gd_Draft_addRow_18 (gh_r0 rfl) ?_
    refine gh_aload_n gd_Draft_addRow_19 2 rfl (by decide) ?_
    refine gh_iload_n gd_Draft_addRow_20 3 rfl ?_
    refine gh_iload gd_Draft_addRow_21 4 rfl ?_
    refine cv_Draft_add (d := d) gd_Draft_addRow_23 gh_k686 hF (Nat.le_of_ble_eq_true rfl) (gh_C.mono (s_Draft_add_12 d (if v1 = 0 then ((m 6 1) - 1) else (16 + v1)) 0 v3 v4 hF h) (fun r371 m372 hq => ?_))
    obtain ⟨hF, h⟩ := hq
    exact gh_ret9 rfl gd_Draft_addRow_26 ⟨hF, h⟩
  refine gh_zne (tgt := 14) gd_Draft_addRow_2 (by decide) (fun c403 => ?_) (fun c403 => ?_)
  · have hz : True := trivial
    have hk := hk.1 c403
    refine gh_aload_n gd_Draft_addRow_5 0 rfl (by decide) ?_
    refine gf_6_1 gd_Draft_addRow_6 gh_k118 hF rfl ?_
    refine gh_iconst gd_Draft_addRow_9 (gh_r0 rfl) ?_
    have q367 := hk
    refine gh_isub gd_Draft_addRow_10 q367 ?_
    refine gh_goto (tgt := 18) gd_Draft_addRow_11 (by decide) ?_
    exact k369 _ (by rw [if_pos c403])
  · have hz : True := trivial
    have hk := hk.2 c403
    refine gh_bipush gd_Draft_addRow_14 (by decide) (gh_r0 rfl) ?_
    refine gh_iload_n gd_Draft_addRow_16 1 rfl ?_
    have q368 := hk
    refine gh_iadd gd_Draft_addRow_17 q368 ?_
    exact k369 _ (by rw [if_neg c403])
def w_Reader_endRow (m : gh_M) (Q : Int → gh_M → Prop) : Prop := gh_i ((m 5 5) * 4) ∧ 0 ≤ m 5 5 ∧ (m 5 5) < 4 ∧ w_Draft_addRow_12 (m 5 5) ((m 5 5) * 4) (m 11 (m 5 5)) m (fun _ m366 => w_Reader_startRow m366 (fun _ m405 => Q 0 m405))
theorem s_Reader_endRow {E : gh_E} {m : gh_M} {Q : Int → gh_M → Prop} (d : Nat) (hF : gh_F m) (h : w_Reader_endRow m Q) : gh_C E gh_yReader_endRow prog_9_method_11_code 1 none 9 (d + 2) [(2, 5)] m (fun r m1 => gh_F m1 ∧ Q r m1) := by
  refine gh_enter2 (L := [(0, 2, 5)]) (by decide +kernel) gh_rt9 (Nat.le_of_ble_eq_true rfl) rfl rfl ?_
  unfold w_Reader_endRow at h
  refine gh_aload_n gd_Reader_endRow_0 0 rfl (by decide) ?_
  refine gf_5_0 gd_Reader_endRow_1 gh_k141 hF ?_
  refine gh_aload_n gd_Reader_endRow_4 0 rfl (by decide) ?_
  refine gf_5_5 gd_Reader_endRow_5 gh_k149 hF rfl ?_
  refine gh_aload_n gd_Reader_endRow_8 0 rfl (by decide) ?_
  refine gf_5_8 gd_Reader_endRow_9 gh_k152 hF ?_
  refine gh_aload_n gd_Reader_endRow_12 0 rfl (by decide) ?_
  refine gf_5_5 gd_Reader_endRow_13 gh_k149 hF rfl ?_
  refine gh_iconst gd_Reader_endRow_16 (gh_r0 rfl) ?_
  obtain ⟨q362, h⟩ := h
  refine gh_imul gd_Reader_endRow_17 q362 ?_
  refine gh_aload_n gd_Reader_endRow_18 0 rfl (by decide) ?_
  refine gf_5_7 gd_Reader_endRow_19 gh_k151 hF ?_
  refine gh_aload_n gd_Reader_endRow_22 0 rfl (by decide) ?_
  refine gf_5_5 gd_Reader_endRow_23 gh_k149 hF rfl ?_
  obtain ⟨q363, h⟩ := h
  obtain ⟨q364, h⟩ := h
  refine la_11 gd_Reader_endRow_26 hF q363 q364 rfl ?_
  refine cv_Draft_addRow (d := d + 1) gd_Reader_endRow_27 gh_k682 hF (Nat.le_of_ble_eq_true rfl) (gh_C.mono (s_Draft_addRow_12 d (m 5 5) ((m 5 5) * 4) (m 11 (m 5 5)) hF h) (fun r365 m366 hq => ?_))
  obtain ⟨hF, h⟩ := hq
  refine gh_aload_n gd_Reader_endRow_30 0 rfl (by decide) ?_
  refine cv_Reader_startRow (d := d + 1) gd_Reader_endRow_31 gh_k671 hF (Nat.le_of_ble_eq_true rfl) (gh_C.mono (s_Reader_startRow (d + 1) hF h) (fun r404 m405 hq => ?_))
  obtain ⟨hF, h⟩ := hq
  exact gh_ret9 rfl gd_Reader_endRow_34 ⟨hF, h⟩
def w_Draft_makeName (m : gh_M) (Q : Int → gh_M → Prop) : Prop := gh_i ((m 6 2) + 1) ∧ gh_i ((((m 6 2) + 1)) - 1) ∧ Q ((((m 6 2) + 1)) - 1) (gh_u m 6 2 ((m 6 2) + 1))
theorem s_Draft_makeName {E : gh_E} {m : gh_M} {Q : Int → gh_M → Prop} (d : Nat) (hF : gh_F m) (h : w_Draft_makeName m Q) : gh_C E gh_yDraft_makeName prog_3_method_6_code 1 (some .int) 0 (d + 0) [(2, 6)] m (fun r m1 => gh_F m1 ∧ Q r m1) := by
  refine gh_enter2 (L := [(0, 2, 6)]) (by decide +kernel) gh_rt0 (Nat.le_of_ble_eq_true rfl) rfl rfl ?_
  unfold w_Draft_makeName at h
  refine gh_aload_n gd_Draft_makeName_0 0 rfl (by decide) ?_
  refine gh_dup gd_Draft_makeName_1 (by decide) ?_
  refine gf_6_2 gd_Draft_makeName_2 gh_k120 hF rfl ?_
  refine gh_iconst gd_Draft_makeName_5 (gh_r0 rfl) ?_
  obtain ⟨q406, h⟩ := h
  refine gh_iadd gd_Draft_makeName_6 q406 ?_
  refine pf_6_2 gd_Draft_makeName_7 gh_k120 hF (fun hF => ?_)
  refine gh_aload_n gd_Draft_makeName_10 0 rfl (by decide) ?_
  refine gf_6_2 gd_Draft_makeName_11 gh_k120 hF (gh_u_s _ _ _ _) ?_
  refine gh_iconst gd_Draft_makeName_14 (gh_r0 rfl) ?_
  obtain ⟨q407, h⟩ := h
  refine gh_isub gd_Draft_makeName_15 q407 ?_
  exact gh_ret0 rfl gd_Draft_makeName_16 ⟨hF, h⟩
def f_Draft_close_7 (v1 : Int) (r408 : Int) (Q : Int → gh_M → Prop) (K7 : Int → gh_M → Prop) (v3 : Int) (m : gh_M) : Prop := ((((v3 < (m 6 3)) ∧ (v3 < 20)) → 0 ≤ v3 ∧ v3 < 20 ∧ gh_i (16 + v1) ∧ ∃ J44 : gh_M → Prop, (∀ (m : gh_M), J44 m → gh_i (v3 + 1) ∧ K7 (v3 + 1) m) ∧ (((m 8 v3) = (16 + v1) → gh_i (8 + r408) ∧ 0 ≤ v3 ∧ v3 < 20 ∧ J44 (gh_u m 8 v3 (8 + r408))) ∧ (¬ ((m 8 v3) = (16 + v1)) → J44 m))) ∧ (¬ ((v3 < (m 6 3)) ∧ (v3 < 20)) → Q r408 m))
def w_Draft_close (v1 : Int) (m : gh_M) (Q : Int → gh_M → Prop) : Prop := w_Draft_makeName m (fun r408 m409 => gh_M1 (fun K7 v3 m => f_Draft_close_7 v1 r408 Q K7 v3 m) 0 m409)
theorem b_Draft_close_7 {E : gh_E} {v1 : Int} {r408 : Int} {Q : Int → gh_M → Prop} {K7 : Int → gh_M → Prop} (d : Nat) (hK : ∀ (v3 : Int) (m : gh_M), gh_F m → K7 v3 m → gh_T E (gh_yDraft_close.cls, prog_3_method_10_code, 4, false, 0) (d + 1) 7 [(0, 2, 6), (1, 0, v1), (2, 0, r408), (3, 0, v3)] [] m (fun r m1 => gh_F m1 ∧ Q r m1)) (v3 : Int) (m : gh_M) (hF : gh_F m) (h : f_Draft_close_7 v1 r408 Q K7 v3 m) : gh_T E (gh_yDraft_close.cls, prog_3_method_10_code, 4, false, 0) (d + 1) 7 [(0, 2, 6), (1, 0, v1), (2, 0, r408), (3, 0, v3)] [] m (fun r m1 => gh_F m1 ∧ Q r m1) := by
  have hK7 := hK
  unfold f_Draft_close_7 at h
  refine gh_iload_n gd_Draft_close_7 3 rfl ?_
  refine gh_aload_n gd_Draft_close_8 0 rfl (by decide) ?_
  refine gf_6_3 gd_Draft_close_9 gh_k121 hF rfl ?_
  obtain ⟨hA, hB⟩ := h
  have k410 : ((v3 < (m 6 3)) ∧ (v3 < 20)) → gh_T E (gh_yDraft_close.cls, prog_3_method_10_code, 4, false, 0) (d + 1) 21 [(0, 2, 6), (1, 0, v1), (2, 0, r408), (3, 0, v3)] [] m (fun r m1 => gh_F m1 ∧ Q r m1) := by
    intro c
    have h := hA c
    refine gh_aload_n gd_Draft_close_21 0 rfl (by decide) ?_
    refine gf_6_4 gd_Draft_close_22 gh_k123 hF ?_
    refine gh_iload_n gd_Draft_close_25 3 rfl ?_
    obtain ⟨q412, h⟩ := h
    obtain ⟨q413, h⟩ := h
    refine la_8 gd_Draft_close_26 hF q412 q413 rfl ?_
    refine gh_bipush gd_Draft_close_27 (by decide) (gh_r0 rfl) ?_
    refine gh_iload_n gd_Draft_close_29 1 rfl ?_
    obtain ⟨q414, h⟩ := h
    refine gh_iadd gd_Draft_close_30 q414 ?_
    obtain ⟨J44, hJ44, h⟩ := h
    have hJ44 : ∀ (m : gh_M), gh_F m → J44 m → gh_T E (gh_yDraft_close.cls, prog_3_method_10_code, 4, false, 0) (d + 1) 44 [(0, 2, 6), (1, 0, v1), (2, 0, r408), (3, 0, v3)] [] m (fun r m1 => gh_F m1 ∧ Q r m1) := by
      intro m hF hj
      have h := hJ44 m hj
      obtain ⟨q415, h⟩ := h
      refine gh_iinc (L2 := [(3, 0, v3 + 1), (0, 2, 6), (1, 0, v1), (2, 0, r408)]) gd_Draft_close_44 3 rfl q415 (by decide) rfl ?_
      refine gh_goto (tgt := 7) gd_Draft_close_47 (by decide) ?_
      refine gh_pick (L2 := [(0, 2, 6), (1, 0, v1), (2, 0, r408), (3, 0, v3 + 1)]) [1, 2, 3, 0] rfl ?_
      exact hK7 (v3 + 1) m hF h
    obtain ⟨hA, hB⟩ := h
    refine gh_jne (tgt := 44) gd_Draft_close_31 (by decide) (fun c416 => ?_) (fun c416 => ?_)
    · have h := hA c416
      refine gh_aload_n gd_Draft_close_34 0 rfl (by decide) ?_
      refine gf_6_4 gd_Draft_close_35 gh_k123 hF ?_
      refine gh_iload_n gd_Draft_close_38 3 rfl ?_
      refine gh_bipush gd_Draft_close_39 (by decide) (gh_r0 rfl) ?_
      refine gh_iload_n gd_Draft_close_41 2 rfl ?_
      obtain ⟨q417, h⟩ := h
      refine gh_iadd gd_Draft_close_42 q417 ?_
      obtain ⟨q418, h⟩ := h
      obtain ⟨q419, h⟩ := h
      refine sa_8 gd_Draft_close_43 hF q418 q419 (fun hF => ?_)
      exact hJ44 (gh_u m 8 v3 (8 + r408)) hF h
    · have h := hB c416
      exact hJ44 m hF h
  have k411 : ¬ ((v3 < (m 6 3)) ∧ (v3 < 20)) → gh_T E (gh_yDraft_close.cls, prog_3_method_10_code, 4, false, 0) (d + 1) 50 [(0, 2, 6), (1, 0, v1), (2, 0, r408), (3, 0, v3)] [] m (fun r m1 => gh_F m1 ∧ Q r m1) := by
    intro c
    have h := hB c
    refine gh_iload_n gd_Draft_close_50 2 rfl ?_
    exact gh_ret0 rfl gd_Draft_close_51 ⟨hF, h⟩
  refine gh_jge (tgt := 50) gd_Draft_close_12 (by decide) (fun c420 => ?_) (fun c420 => ?_)
  · have hz : True := trivial
    refine gh_iload_n gd_Draft_close_15 3 rfl ?_
    refine gh_bipush gd_Draft_close_16 (by decide) (gh_r0 rfl) ?_
    refine gh_jge (tgt := 50) gd_Draft_close_18 (by decide) (fun c421 => ?_) (fun c421 => ?_)
    · have hz : True := trivial
      exact k410 ⟨c420, c421⟩
    · have hz : True := trivial
      exact k411 (fun z => c421 z.2)
  · have hz : True := trivial
    exact k411 (fun z => c420 z.1)
theorem s_Draft_close {E : gh_E} {m : gh_M} {Q : Int → gh_M → Prop} (d : Nat) (v1 : Int) (hF : gh_F m) (h : w_Draft_close v1 m Q) : gh_C E gh_yDraft_close prog_3_method_10_code 4 (some .int) 0 (d + 1) [(2, 6), (0, v1)] m (fun r m1 => gh_F m1 ∧ Q r m1) := by
  refine gh_enter2 (L := [(0, 2, 6), (1, 0, v1)]) (by decide +kernel) gh_rt0 (Nat.le_of_ble_eq_true rfl) rfl rfl ?_
  unfold w_Draft_close at h
  refine gh_aload_n gd_Draft_close_0 0 rfl (by decide) ?_
  refine cv_Draft_makeName (d := d) gd_Draft_close_1 gh_k694 hF (Nat.le_of_ble_eq_true rfl) (gh_C.mono (s_Draft_makeName d hF h) (fun r408 m409 hq => ?_))
  obtain ⟨hF, h⟩ := hq
  refine gh_istore_n (L2 := [(2, 0, r408), (0, 2, 6), (1, 0, v1)]) gd_Draft_close_4 (by decide) rfl ?_
  refine gh_iconst gd_Draft_close_5 (gh_r0 rfl) ?_
  refine gh_istore_n (L2 := [(3, 0, 0), (2, 0, r408), (0, 2, 6), (1, 0, v1)]) gd_Draft_close_6 (by decide) rfl ?_
  refine gh_pick (L2 := [(0, 2, 6), (1, 0, v1), (2, 0, r408), (3, 0, 0)]) [2, 3, 1, 0] rfl ?_
  exact gh_M1_sound (T := fun v3 m => gh_T E (gh_yDraft_close.cls, prog_3_method_10_code, 4, false, 0) (d + 1) 7 [(0, 2, 6), (1, 0, v1), (2, 0, r408), (3, 0, v3)] [] m (fun r m1 => gh_F m1 ∧ Q r m1)) (fun _ m => gh_F m) (fun K7 v3 m hK hF h => b_Draft_close_7 d hK v3 m hF h) 0 m409 hF h
def w_Draft_addMadeRow_12 (v1 : Int) (v2 : Int) (v4 : Int) (v5 : Int) (m : gh_M) (Q : Int → gh_M → Prop) : Prop := gh_i (8 + v1) ∧ ((¬ (v2 = 0) → (gh_i ((-1) - v1)))) ∧ w_Draft_add_12 (8 + v1) (if v2 = 0 then 0 else ((-1) - v1)) v4 v5 m (fun _ m438 => Q 0 m438)
theorem s_Draft_addMadeRow_12 {E : gh_E} {m : gh_M} {Q : Int → gh_M → Prop} (d : Nat) (v1 : Int) (v2 : Int) (v4 : Int) (v5 : Int) (hF : gh_F m) (h : w_Draft_addMadeRow_12 v1 v2 v4 v5 m Q) : gh_C E gh_yDraft_addMadeRow prog_3_method_8_code 6 none 9 (d + 1) [(2, 6), (0, v1), (0, v2), (2, 12), (0, v4), (0, v5)] m (fun r m1 => gh_F m1 ∧ Q r m1) := by
  refine gh_enter2 (L := [(0, 2, 6), (1, 0, v1), (2, 0, v2), (3, 2, 12), (4, 0, v4), (5, 0, v5)]) (by decide +kernel) gh_rt9 (Nat.le_of_ble_eq_true rfl) rfl rfl ?_
  unfold w_Draft_addMadeRow_12 at h
  refine gh_aload_n gd_Draft_addMadeRow_0 0 rfl (by decide) ?_
  refine gh_bipush gd_Draft_addMadeRow_1 (by decide) (gh_r0 rfl) ?_
  refine gh_iload_n gd_Draft_addMadeRow_3 1 rfl ?_
  obtain ⟨q433, h⟩ := h
  refine gh_iadd gd_Draft_addMadeRow_4 q433 ?_
  refine gh_iload_n gd_Draft_addMadeRow_5 2 rfl ?_
  obtain ⟨hk, h⟩ := h
  have k435 : ∀ x436 : Int, x436 = (if v2 = 0 then 0 else ((-1) - v1)) → gh_T E (gh_yDraft_addMadeRow.cls, prog_3_method_8_code, 6, false, 9) (d + 1) 16 [(0, 2, 6), (1, 0, v1), (2, 0, v2), (3, 2, 12), (4, 0, v4), (5, 0, v5)] [(0, x436), (0, 8 + v1), (2, 6)] m (fun r m1 => gh_F m1 ∧ Q r m1) := by
    rintro _ rfl
    refine gh_aload_n gd_Draft_addMadeRow_16 3 rfl (by decide) ?_
    refine gh_iload gd_Draft_addMadeRow_17 4 rfl ?_
    refine gh_iload gd_Draft_addMadeRow_19 5 rfl ?_
    refine cv_Draft_add (d := d) gd_Draft_addMadeRow_21 gh_k686 hF (Nat.le_of_ble_eq_true rfl) (gh_C.mono (s_Draft_add_12 d (8 + v1) (if v2 = 0 then 0 else ((-1) - v1)) v4 v5 hF h) (fun r437 m438 hq => ?_))
    obtain ⟨hF, h⟩ := hq
    exact gh_ret9 rfl gd_Draft_addMadeRow_24 ⟨hF, h⟩
  refine gh_zeq (tgt := 15) gd_Draft_addMadeRow_6 (by decide) (fun c439 => ?_) (fun c439 => ?_)
  · have hz : True := trivial
    refine gh_iconst gd_Draft_addMadeRow_15 (gh_r0 rfl) ?_
    exact k435 _ (by rw [if_pos c439])
  · have hz : True := trivial
    have hk := hk c439
    refine gh_iconst gd_Draft_addMadeRow_9 (gh_r0 rfl) ?_
    refine gh_iload_n gd_Draft_addMadeRow_10 1 rfl ?_
    have q434 := hk
    refine gh_isub gd_Draft_addMadeRow_11 q434 ?_
    refine gh_goto (tgt := 16) gd_Draft_addMadeRow_12 (by decide) ?_
    exact k435 _ (by rw [if_neg c439])
def w_Reader_repeat (v1 : Int) (m : gh_M) (Q : Int → gh_M → Prop) : Prop := w_Draft_makeName m (fun r422 m423 => gh_i ((m423 5 5) * 4) ∧ 0 ≤ m423 5 5 ∧ (m423 5 5) < 4 ∧ gh_i (((m423 5 5) * 4) + (m423 11 (m423 5 5))) ∧ gh_i ((((m423 5 5) * 4) + (m423 11 (m423 5 5))) - (m423 5 6)) ∧ ∀ v3 : Int, v3 = (((m423 5 5) * 4) + (m423 11 (m423 5 5))) - (m423 5 6) → w_Draft_addMadeRow_12 r422 0 v3 (if v1 = 42 then 0 else (m423 5 6)) m423 (fun _ m432 => w_Draft_addMadeRow_12 r422 (if (¬ (v1 = 63)) then (1:Int) else 0) v3 (if v1 = 63 then 0 else (m432 5 6)) m432 (fun _ m445 => 0 ≤ m445 5 5 ∧ (m445 5 5) < 4 ∧ gh_i ((m445 11 (m445 5 5)) - (m445 5 6)) ∧ 0 ≤ m445 5 5 ∧ (m445 5 5) < 4 ∧ gh_i ((-1) - r422) ∧ w_Reader_push ((-1) - r422) (gh_u m445 11 (m445 5 5) ((m445 11 (m445 5 5)) - (m445 5 6))) (fun _ m453 => Q 0 (gh_u m453 5 6 0)))))
theorem s_Reader_repeat {E : gh_E} {m : gh_M} {Q : Int → gh_M → Prop} (d : Nat) (v1 : Int) (hF : gh_F m) (h : w_Reader_repeat v1 m Q) : gh_C E gh_yReader_repeat prog_9_method_12_code 4 none 9 (d + 2) [(2, 5), (0, v1)] m (fun r m1 => gh_F m1 ∧ Q r m1) := by
  refine gh_enter2 (L := [(0, 2, 5), (1, 0, v1)]) (by decide +kernel) gh_rt9 (Nat.le_of_ble_eq_true rfl) rfl rfl ?_
  unfold w_Reader_repeat at h
  refine gh_aload_n gd_Reader_repeat_0 0 rfl (by decide) ?_
  refine gf_5_0 gd_Reader_repeat_1 gh_k141 hF ?_
  refine cv_Draft_makeName (d := d + 1) gd_Reader_repeat_4 gh_k705 hF (Nat.le_of_ble_eq_true rfl) (gh_C.mono (s_Draft_makeName (d + 1) hF h) (fun r422 m423 hq => ?_))
  obtain ⟨hF, h⟩ := hq
  refine gh_istore_n (L2 := [(2, 0, r422), (0, 2, 5), (1, 0, v1)]) gd_Reader_repeat_7 (by decide) rfl ?_
  refine gh_aload_n gd_Reader_repeat_8 1 rfl (by decide) ?_
  refine gf_5_5 gd_Reader_repeat_9 gh_k149 hF rfl ?_
  refine gh_iconst gd_Reader_repeat_12 (gh_r0 rfl) ?_
  obtain ⟨q424, h⟩ := h
  refine gh_imul gd_Reader_repeat_13 q424 ?_
  refine gh_aload_n gd_Reader_repeat_14 1 rfl (by decide) ?_
  refine gf_5_7 gd_Reader_repeat_15 gh_k151 hF ?_
  refine gh_aload_n gd_Reader_repeat_18 1 rfl (by decide) ?_
  refine gf_5_5 gd_Reader_repeat_19 gh_k149 hF rfl ?_
  obtain ⟨q425, h⟩ := h
  obtain ⟨q426, h⟩ := h
  refine la_11 gd_Reader_repeat_22 hF q425 q426 rfl ?_
  obtain ⟨q427, h⟩ := h
  refine gh_iadd gd_Reader_repeat_23 q427 ?_
  refine gh_aload_n gd_Reader_repeat_24 1 rfl (by decide) ?_
  refine gf_5_6 gd_Reader_repeat_25 gh_k150 hF rfl ?_
  obtain ⟨q428, h⟩ := h
  refine gh_isub gd_Reader_repeat_28 q428 ?_
  refine gh_name (fun v3 hn => ?_)
  have h := h v3 hn
  refine gh_istore_n (L2 := [(3, 0, v3), (2, 0, r422), (0, 2, 5), (1, 0, v1)]) gd_Reader_repeat_29 (by decide) rfl ?_
  refine gh_aload_n gd_Reader_repeat_30 2 rfl (by decide) ?_
  refine gf_5_0 gd_Reader_repeat_31 gh_k141 hF ?_
  refine gh_iload_n gd_Reader_repeat_34 1 rfl ?_
  refine gh_iconst gd_Reader_repeat_35 (gh_r0 rfl) ?_
  refine gh_aload_n gd_Reader_repeat_36 2 rfl (by decide) ?_
  refine gf_5_8 gd_Reader_repeat_37 gh_k152 hF ?_
  refine gh_iload_n gd_Reader_repeat_40 0 rfl ?_
  refine gh_iload_n gd_Reader_repeat_41 3 rfl ?_
  refine gh_bipush gd_Reader_repeat_42 (by decide) (gh_r0 rfl) ?_
  have k429 : ∀ x430 : Int, x430 = (if v1 = 42 then 0 else (m423 5 6)) → gh_T E (gh_yReader_repeat.cls, prog_9_method_12_code, 4, false, 9) (d + 2) 55 [(3, 0, v3), (2, 0, r422), (0, 2, 5), (1, 0, v1)] [(0, x430), (0, v3), (2, 12), (0, 0), (0, r422), (2, 6)] m423 (fun r m1 => gh_F m1 ∧ Q r m1) := by
    rintro _ rfl
    refine cv_Draft_addMadeRow (d := d + 1) gd_Reader_repeat_55 gh_k706 hF (Nat.le_of_ble_eq_true rfl) (gh_C.mono (s_Draft_addMadeRow_12 d r422 0 v3 (if v1 = 42 then 0 else (m423 5 6)) hF h) (fun r431 m432 hq => ?_))
    obtain ⟨hF, h⟩ := hq
    refine gh_aload_n gd_Reader_repeat_58 2 rfl (by decide) ?_
    refine gf_5_0 gd_Reader_repeat_59 gh_k141 hF ?_
    refine gh_iload_n gd_Reader_repeat_62 1 rfl ?_
    refine gh_iload_n gd_Reader_repeat_63 3 rfl ?_
    refine gh_bipush gd_Reader_repeat_64 (by decide) (gh_r0 rfl) ?_
    have k440 : ∀ x441 : Int, x441 = (if (¬ (v1 = 63)) then (1:Int) else 0) → gh_T E (gh_yReader_repeat.cls, prog_9_method_12_code, 4, false, 9) (d + 2) 74 [(3, 0, v3), (2, 0, r422), (0, 2, 5), (1, 0, v1)] [(0, x441), (0, r422), (2, 6)] m432 (fun r m1 => gh_F m1 ∧ Q r m1) := by
      rintro _ rfl
      refine gh_aload_n gd_Reader_repeat_74 2 rfl (by decide) ?_
      refine gf_5_8 gd_Reader_repeat_75 gh_k152 hF ?_
      refine gh_iload_n gd_Reader_repeat_78 0 rfl ?_
      refine gh_iload_n gd_Reader_repeat_79 3 rfl ?_
      refine gh_bipush gd_Reader_repeat_80 (by decide) (gh_r0 rfl) ?_
      have k442 : ∀ x443 : Int, x443 = (if v1 = 63 then 0 else (m432 5 6)) → gh_T E (gh_yReader_repeat.cls, prog_9_method_12_code, 4, false, 9) (d + 2) 93 [(3, 0, v3), (2, 0, r422), (0, 2, 5), (1, 0, v1)] [(0, x443), (0, v3), (2, 12), (0, (if (¬ (v1 = 63)) then (1:Int) else 0)), (0, r422), (2, 6)] m432 (fun r m1 => gh_F m1 ∧ Q r m1) := by
        rintro _ rfl
        refine cv_Draft_addMadeRow (d := d + 1) gd_Reader_repeat_93 gh_k706 hF (Nat.le_of_ble_eq_true rfl) (gh_C.mono (s_Draft_addMadeRow_12 d r422 (if (¬ (v1 = 63)) then (1:Int) else 0) v3 (if v1 = 63 then 0 else (m432 5 6)) hF h) (fun r444 m445 hq => ?_))
        obtain ⟨hF, h⟩ := hq
        refine gh_aload_n gd_Reader_repeat_96 2 rfl (by decide) ?_
        refine gf_5_7 gd_Reader_repeat_97 gh_k151 hF ?_
        refine gh_aload_n gd_Reader_repeat_100 2 rfl (by decide) ?_
        refine gf_5_5 gd_Reader_repeat_101 gh_k149 hF rfl ?_
        refine gh_dup2 gd_Reader_repeat_104 (by decide) (by decide) ?_
        obtain ⟨q446, h⟩ := h
        obtain ⟨q447, h⟩ := h
        refine la_11 gd_Reader_repeat_105 hF q446 q447 rfl ?_
        refine gh_aload_n gd_Reader_repeat_106 2 rfl (by decide) ?_
        refine gf_5_6 gd_Reader_repeat_107 gh_k150 hF rfl ?_
        obtain ⟨q448, h⟩ := h
        refine gh_isub gd_Reader_repeat_110 q448 ?_
        obtain ⟨q449, h⟩ := h
        obtain ⟨q450, h⟩ := h
        refine sa_11 gd_Reader_repeat_111 hF q449 q450 (fun hF => ?_)
        refine gh_aload_n gd_Reader_repeat_112 2 rfl (by decide) ?_
        refine gh_iconst gd_Reader_repeat_113 (gh_r0 rfl) ?_
        refine gh_iload_n gd_Reader_repeat_114 1 rfl ?_
        obtain ⟨q451, h⟩ := h
        refine gh_isub gd_Reader_repeat_115 q451 ?_
        refine cv_Reader_push (d := d + 1) gd_Reader_repeat_116 gh_k659 hF (Nat.le_of_ble_eq_true rfl) (gh_C.mono (s_Reader_push (d + 1) ((-1) - r422) hF h) (fun r452 m453 hq => ?_))
        obtain ⟨hF, h⟩ := hq
        refine gh_aload_n gd_Reader_repeat_119 2 rfl (by decide) ?_
        refine gh_iconst gd_Reader_repeat_120 (gh_r0 rfl) ?_
        refine pf_5_6 gd_Reader_repeat_121 gh_k150 hF (fun hF => ?_)
        exact gh_ret9 rfl gd_Reader_repeat_124 ⟨hF, h⟩
      refine gh_jne (tgt := 89) gd_Reader_repeat_82 (by decide) (fun c454 => ?_) (fun c454 => ?_)
      · have hz : True := trivial
        refine gh_iconst gd_Reader_repeat_85 (gh_r0 rfl) ?_
        refine gh_goto (tgt := 93) gd_Reader_repeat_86 (by decide) ?_
        exact k442 _ (by rw [if_pos c454])
      · have hz : True := trivial
        refine gh_aload_n gd_Reader_repeat_89 2 rfl (by decide) ?_
        refine gf_5_6 gd_Reader_repeat_90 gh_k150 hF rfl ?_
        exact k442 _ (by rw [if_neg c454])
    refine gh_jeq (tgt := 73) gd_Reader_repeat_66 (by decide) (fun c455 => ?_) (fun c455 => ?_)
    · have hz : True := trivial
      refine gh_iconst gd_Reader_repeat_73 (gh_r0 rfl) ?_
      exact k440 _ (if_neg (c := (¬ (v1 = 63))) (not_not_intro c455)).symm
    · have hz : True := trivial
      refine gh_iconst gd_Reader_repeat_69 (gh_r0 rfl) ?_
      refine gh_goto (tgt := 74) gd_Reader_repeat_70 (by decide) ?_
      exact k440 _ (if_pos (c := (¬ (v1 = 63))) c455).symm
  refine gh_jne (tgt := 51) gd_Reader_repeat_44 (by decide) (fun c456 => ?_) (fun c456 => ?_)
  · have hz : True := trivial
    refine gh_iconst gd_Reader_repeat_47 (gh_r0 rfl) ?_
    refine gh_goto (tgt := 55) gd_Reader_repeat_48 (by decide) ?_
    exact k429 _ (by rw [if_pos c456])
  · have hz : True := trivial
    refine gh_aload_n gd_Reader_repeat_51 2 rfl (by decide) ?_
    refine gf_5_6 gd_Reader_repeat_52 gh_k150 hF rfl ?_
    exact k429 _ (by rw [if_neg c456])
def w_Reader_take (m : gh_M) (Q : Int → gh_M → Prop) : Prop := (((m 3 2) = 1 ∨ (m 3 2) = 2 ∨ (m 3 2) = 3 → w_Reader_takeWord m (fun _ m460 => Q 0 m460)) ∧ (((m 3 2) = 40 → gh_i ((m 5 5) + 1) ∧ w_Reader_startRow (gh_u m 5 5 (min ((m 5 5) + 1) 3)) (fun _ m464 => Q 0 m464)) ∧ (((m 3 2) = 41 → w_Reader_endRow m (fun _ m467 => w_Draft_close (m467 5 5) m467 (fun r468 m469 => gh_i ((m469 5 5) - 1) ∧ gh_i ((-1) - r468) ∧ w_Reader_push ((-1) - r468) (gh_u m469 5 5 (max ((m469 5 5) - 1) 0)) (fun _ m473 => Q 0 (gh_u m473 5 6 1))))) ∧ (((m 3 2) = 58 → w_Reader_startRow (gh_u (gh_u m 5 4 2) 5 5 0) (fun _ m476 => Q 0 m476)) ∧ (((m 3 2) = 59 → w_Reader_endRow m (fun _ m479 => Q 0 (gh_u m479 5 4 0))) ∧ (((m 3 2) = 124 → w_Reader_endRow m (fun _ m482 => Q 0 m482)) ∧ (¬ ((m 3 2) = 1 ∨ (m 3 2) = 2 ∨ (m 3 2) = 3) → ¬ ((m 3 2) = 40) → ¬ ((m 3 2) = 41) → ¬ ((m 3 2) = 58) → ¬ ((m 3 2) = 59) → ¬ ((m 3 2) = 124) → w_Reader_repeat (m 3 2) m (fun _ m492 => Q 0 m492))))))))
theorem s_Reader_take {E : gh_E} {m : gh_M} {Q : Int → gh_M → Prop} (d : Nat) (hF : gh_F m) (h : w_Reader_take m Q) : gh_C E gh_yReader_take prog_9_method_7_code 2 none 9 (d + 3) [(2, 5)] m (fun r m1 => gh_F m1 ∧ Q r m1) := by
  refine gh_enter2 (L := [(0, 2, 5)]) (by decide +kernel) gh_rt9 (Nat.le_of_ble_eq_true rfl) rfl rfl ?_
  unfold w_Reader_take at h
  refine gh_aload_n gd_Reader_take_0 0 rfl (by decide) ?_
  refine gf_5_3 gd_Reader_take_1 gh_k147 hF ?_
  refine gf_3_2 gd_Reader_take_4 gh_k88 hF rfl ?_
  obtain ⟨hA, h⟩ := h
  by_cases c457 : (m 3 2) = 1 ∨ (m 3 2) = 2 ∨ (m 3 2) = 3
  · have h := hA c457
    have k458 : gh_T E (gh_yReader_take.cls, prog_9_method_7_code, 2, false, 9) (d + 3) 80 [(0, 2, 5)] [] m (fun r m1 => gh_F m1 ∧ Q r m1) := by
      refine gh_aload_n gd_Reader_take_80 0 rfl (by decide) ?_
      refine cv_Reader_takeWord (d := d + 2) gd_Reader_take_81 gh_k651 hF (Nat.le_of_ble_eq_true rfl) (gh_C.mono (s_Reader_takeWord d hF h) (fun r459 m460 hq => ?_))
      obtain ⟨hF, h⟩ := hq
      refine gh_goto (tgt := 200) gd_Reader_take_84 (by decide) ?_
      exact gh_ret9 rfl gd_Reader_take_200 ⟨hF, h⟩
    rcases c457 with e | e | e
    · exact gh_lookup (tgt := 80) gd_Reader_take_7 (by decide) (by rw [e]; decide) k458
    · exact gh_lookup (tgt := 80) gd_Reader_take_7 (by decide) (by rw [e]; decide) k458
    · exact gh_lookup (tgt := 80) gd_Reader_take_7 (by decide) (by rw [e]; decide) k458
  obtain ⟨hA, h⟩ := h
  by_cases c461 : (m 3 2) = 40
  · have h := hA c461
    refine gh_lookup (tgt := 104) gd_Reader_take_7 (by decide) (by rw [c461]; decide) ?_
    refine gh_aload_n gd_Reader_take_104 0 rfl (by decide) ?_
    refine gh_aload_n gd_Reader_take_105 0 rfl (by decide) ?_
    refine gf_5_5 gd_Reader_take_106 gh_k149 hF rfl ?_
    refine gh_iconst gd_Reader_take_109 (gh_r0 rfl) ?_
    obtain ⟨q462, h⟩ := h
    refine gh_iadd gd_Reader_take_110 q462 ?_
    refine gh_iconst gd_Reader_take_111 (gh_r0 rfl) ?_
    refine gh_pr_min gd_Reader_take_112 gh_k675 (Nat.le_of_ble_eq_true rfl) ?_
    refine pf_5_5 gd_Reader_take_115 gh_k149 hF (fun hF => ?_)
    refine gh_aload_n gd_Reader_take_118 0 rfl (by decide) ?_
    refine cv_Reader_startRow (d := d + 2) gd_Reader_take_119 gh_k671 hF (Nat.le_of_ble_eq_true rfl) (gh_C.mono (s_Reader_startRow (d + 2) hF h) (fun r463 m464 hq => ?_))
    obtain ⟨hF, h⟩ := hq
    refine gh_goto (tgt := 200) gd_Reader_take_122 (by decide) ?_
    exact gh_ret9 rfl gd_Reader_take_200 ⟨hF, h⟩
  obtain ⟨hA, h⟩ := h
  by_cases c465 : (m 3 2) = 41
  · have h := hA c465
    refine gh_lookup (tgt := 144) gd_Reader_take_7 (by decide) (by rw [c465]; decide) ?_
    refine gh_aload_n gd_Reader_take_144 0 rfl (by decide) ?_
    refine cv_Reader_endRow (d := d + 2) gd_Reader_take_145 gh_k678 hF (Nat.le_of_ble_eq_true rfl) (gh_C.mono (s_Reader_endRow d hF h) (fun r466 m467 hq => ?_))
    obtain ⟨hF, h⟩ := hq
    refine gh_aload_n gd_Reader_take_148 0 rfl (by decide) ?_
    refine gf_5_0 gd_Reader_take_149 gh_k141 hF ?_
    refine gh_aload_n gd_Reader_take_152 0 rfl (by decide) ?_
    refine gf_5_5 gd_Reader_take_153 gh_k149 hF rfl ?_
    refine cv_Draft_close (d := d + 2) gd_Reader_take_156 gh_k690 hF (Nat.le_of_ble_eq_true rfl) (gh_C.mono (s_Draft_close (d + 1) (m467 5 5) hF h) (fun r468 m469 hq => ?_))
    obtain ⟨hF, h⟩ := hq
    refine gh_istore_n (L2 := [(1, 0, r468), (0, 2, 5)]) gd_Reader_take_159 (by decide) rfl ?_
    refine gh_aload_n gd_Reader_take_160 1 rfl (by decide) ?_
    refine gh_aload_n gd_Reader_take_161 1 rfl (by decide) ?_
    refine gf_5_5 gd_Reader_take_162 gh_k149 hF rfl ?_
    refine gh_iconst gd_Reader_take_165 (gh_r0 rfl) ?_
    obtain ⟨q470, h⟩ := h
    refine gh_isub gd_Reader_take_166 q470 ?_
    refine gh_iconst gd_Reader_take_167 (gh_r0 rfl) ?_
    refine gh_pr_max gd_Reader_take_168 gh_k698 (Nat.le_of_ble_eq_true rfl) ?_
    refine pf_5_5 gd_Reader_take_171 gh_k149 hF (fun hF => ?_)
    refine gh_aload_n gd_Reader_take_174 1 rfl (by decide) ?_
    refine gh_iconst gd_Reader_take_175 (gh_r0 rfl) ?_
    refine gh_iload_n gd_Reader_take_176 0 rfl ?_
    obtain ⟨q471, h⟩ := h
    refine gh_isub gd_Reader_take_177 q471 ?_
    refine cv_Reader_push (d := d + 2) gd_Reader_take_178 gh_k659 hF (Nat.le_of_ble_eq_true rfl) (gh_C.mono (s_Reader_push (d + 2) ((-1) - r468) hF h) (fun r472 m473 hq => ?_))
    obtain ⟨hF, h⟩ := hq
    refine gh_aload_n gd_Reader_take_181 1 rfl (by decide) ?_
    refine gh_iconst gd_Reader_take_182 (gh_r0 rfl) ?_
    refine pf_5_6 gd_Reader_take_183 gh_k150 hF (fun hF => ?_)
    refine gh_goto (tgt := 200) gd_Reader_take_186 (by decide) ?_
    exact gh_ret9 rfl gd_Reader_take_200 ⟨hF, h⟩
  obtain ⟨hA, h⟩ := h
  by_cases c474 : (m 3 2) = 58
  · have h := hA c474
    refine gh_lookup (tgt := 87) gd_Reader_take_7 (by decide) (by rw [c474]; decide) ?_
    refine gh_aload_n gd_Reader_take_87 0 rfl (by decide) ?_
    refine gh_iconst gd_Reader_take_88 (gh_r0 rfl) ?_
    refine pf_5_4 gd_Reader_take_89 gh_k148 hF (fun hF => ?_)
    refine gh_aload_n gd_Reader_take_92 0 rfl (by decide) ?_
    refine gh_iconst gd_Reader_take_93 (gh_r0 rfl) ?_
    refine pf_5_5 gd_Reader_take_94 gh_k149 hF (fun hF => ?_)
    refine gh_aload_n gd_Reader_take_97 0 rfl (by decide) ?_
    refine cv_Reader_startRow (d := d + 2) gd_Reader_take_98 gh_k671 hF (Nat.le_of_ble_eq_true rfl) (gh_C.mono (s_Reader_startRow (d + 2) hF h) (fun r475 m476 hq => ?_))
    obtain ⟨hF, h⟩ := hq
    refine gh_goto (tgt := 200) gd_Reader_take_101 (by decide) ?_
    exact gh_ret9 rfl gd_Reader_take_200 ⟨hF, h⟩
  obtain ⟨hA, h⟩ := h
  by_cases c477 : (m 3 2) = 59
  · have h := hA c477
    refine gh_lookup (tgt := 132) gd_Reader_take_7 (by decide) (by rw [c477]; decide) ?_
    refine gh_aload_n gd_Reader_take_132 0 rfl (by decide) ?_
    refine cv_Reader_endRow (d := d + 2) gd_Reader_take_133 gh_k678 hF (Nat.le_of_ble_eq_true rfl) (gh_C.mono (s_Reader_endRow d hF h) (fun r478 m479 hq => ?_))
    obtain ⟨hF, h⟩ := hq
    refine gh_aload_n gd_Reader_take_136 0 rfl (by decide) ?_
    refine gh_iconst gd_Reader_take_137 (gh_r0 rfl) ?_
    refine pf_5_4 gd_Reader_take_138 gh_k148 hF (fun hF => ?_)
    refine gh_goto (tgt := 200) gd_Reader_take_141 (by decide) ?_
    exact gh_ret9 rfl gd_Reader_take_200 ⟨hF, h⟩
  obtain ⟨hA, h⟩ := h
  by_cases c480 : (m 3 2) = 124
  · have h := hA c480
    refine gh_lookup (tgt := 125) gd_Reader_take_7 (by decide) (by rw [c480]; decide) ?_
    refine gh_aload_n gd_Reader_take_125 0 rfl (by decide) ?_
    refine cv_Reader_endRow (d := d + 2) gd_Reader_take_126 gh_k678 hF (Nat.le_of_ble_eq_true rfl) (gh_C.mono (s_Reader_endRow d hF h) (fun r481 m482 hq => ?_))
    obtain ⟨hF, h⟩ := hq
    refine gh_goto (tgt := 200) gd_Reader_take_129 (by decide) ?_
    exact gh_ret9 rfl gd_Reader_take_200 ⟨hF, h⟩
  have n483 : ¬ ((m 3 2) = 1) := fun z => c457 (by simp [z])
  have n484 : ¬ ((m 3 2) = 2) := fun z => c457 (by simp [z])
  have n485 : ¬ ((m 3 2) = 3) := fun z => c457 (by simp [z])
  have n486 : ¬ ((m 3 2) = 40) := c461
  have n487 : ¬ ((m 3 2) = 41) := c465
  have n488 : ¬ ((m 3 2) = 58) := c474
  have n489 : ¬ ((m 3 2) = 59) := c477
  have n490 : ¬ ((m 3 2) = 124) := c480
  refine gh_lookup (tgt := 189) gd_Reader_take_7 (by decide) (by simp [Op.lookupswitch.offset]; rw [if_neg (Ne.symm n483), if_neg (Ne.symm n484), if_neg (Ne.symm n485), if_neg (Ne.symm n486), if_neg (Ne.symm n487), if_neg (Ne.symm n488), if_neg (Ne.symm n489), if_neg (Ne.symm n490)]; rfl) ?_
  have h := h c457 c461 c465 c474 c477 c480
  refine gh_aload_n gd_Reader_take_189 0 rfl (by decide) ?_
  refine gh_aload_n gd_Reader_take_190 0 rfl (by decide) ?_
  refine gf_5_3 gd_Reader_take_191 gh_k147 hF ?_
  refine gf_3_2 gd_Reader_take_194 gh_k88 hF rfl ?_
  refine cv_Reader_repeat (d := d + 2) gd_Reader_take_197 gh_k701 hF (Nat.le_of_ble_eq_true rfl) (gh_C.mono (s_Reader_repeat d (m 3 2) hF h) (fun r491 m492 hq => ?_))
  obtain ⟨hF, h⟩ := hq
  exact gh_ret9 rfl gd_Reader_take_200 ⟨hF, h⟩
def f_Reader_allNamesHaveRules_12 (Q : Int → gh_M → Prop) (K12 : Int → Int → gh_M → Prop) (v1 : Int) (v2 : Int) (m : gh_M) : Prop := ((v2 ≤ 240 → w_Tape_advance m (fun _ m497 => ∃ J79 : Prop, (J79 → (((m497 3 2) = 4 → Q 1 m497) ∧ (¬ ((m497 3 2) = 4) → ∀ v1' : Int, v1' = m497 3 2 → gh_i (v2 + 1) ∧ K12 v1' (v2 + 1) m497))) ∧ (((¬ ((m497 3 2) = 1) ∨ (v1 = 59)) → J79) ∧ (¬ (¬ ((m497 3 2) = 1) ∨ (v1 = 59)) → w_Tape_key m497 (fun r502 => w_Draft_find r502 m497 (fun r504 => ((r504 = (-1) → Q 0 (gh_u (gh_u m497 5 1 5) 5 2 (m497 3 3))) ∧ (¬ (r504 = (-1)) → J79)))))))) ∧ (¬ (v2 ≤ 240) → Q 1 m))
def w_Reader_allNamesHaveRules (m : gh_M) (Q : Int → gh_M → Prop) : Prop := w_Tape_rewind m (fun _ m494 => gh_M2 (fun K12 v1 v2 m => f_Reader_allNamesHaveRules_12 Q K12 v1 v2 m) 59 0 m494)
theorem b_Reader_allNamesHaveRules_12 {E : gh_E} {Q : Int → gh_M → Prop} {K12 : Int → Int → gh_M → Prop} (d : Nat) (hK : ∀ (v1 : Int) (v2 : Int) (m : gh_M), gh_F m → K12 v1 v2 m → gh_T E (gh_yReader_allNamesHaveRules.cls, prog_9_method_3_code, 3, false, 8) (d + 3) 12 [(0, 2, 5), (1, 0, v1), (2, 0, v2)] [] m (fun r m1 => gh_F m1 ∧ Q r m1)) (v1 : Int) (v2 : Int) (m : gh_M) (hF : gh_F m) (h : f_Reader_allNamesHaveRules_12 Q K12 v1 v2 m) : gh_T E (gh_yReader_allNamesHaveRules.cls, prog_9_method_3_code, 3, false, 8) (d + 3) 12 [(0, 2, 5), (1, 0, v1), (2, 0, v2)] [] m (fun r m1 => gh_F m1 ∧ Q r m1) := by
  have hK12 := hK
  unfold f_Reader_allNamesHaveRules_12 at h
  refine gh_iload_n gd_Reader_allNamesHaveRules_12 2 rfl ?_
  refine gh_sipush gd_Reader_allNamesHaveRules_13 (by decide) (gh_r0 rfl) ?_
  obtain ⟨hA, hB⟩ := h
  refine gh_jgt (tgt := 106) gd_Reader_allNamesHaveRules_16 (by decide) (fun c495 => ?_) (fun c495 => ?_)
  · have h := hA c495
    refine gh_aload_n gd_Reader_allNamesHaveRules_19 0 rfl (by decide) ?_
    refine gf_5_3 gd_Reader_allNamesHaveRules_20 gh_k147 hF ?_
    refine cv_Tape_advance (d := d + 2) gd_Reader_allNamesHaveRules_23 gh_k590 hF (Nat.le_of_ble_eq_true rfl) (gh_C.mono (s_Tape_advance d hF h) (fun r496 m497 hq => ?_))
    obtain ⟨hF, h⟩ := hq
    refine gh_aload_n gd_Reader_allNamesHaveRules_26 0 rfl (by decide) ?_
    refine gf_5_3 gd_Reader_allNamesHaveRules_27 gh_k147 hF ?_
    refine gf_3_2 gd_Reader_allNamesHaveRules_30 gh_k88 hF rfl ?_
    refine gh_iconst gd_Reader_allNamesHaveRules_33 (gh_r0 rfl) ?_
    obtain ⟨J79, hJ79, h⟩ := h
    have hJ79 : gh_F m497 → J79 → gh_T E (gh_yReader_allNamesHaveRules.cls, prog_9_method_3_code, 3, false, 8) (d + 3) 79 [(0, 2, 5), (2, 0, v2)] [] m497 (fun r m1 => gh_F m1 ∧ Q r m1) := by
      intro hF hj
      have h := hJ79 hj
      refine gh_aload_n gd_Reader_allNamesHaveRules_79 0 rfl (by decide) ?_
      refine gf_5_3 gd_Reader_allNamesHaveRules_80 gh_k147 hF ?_
      refine gf_3_2 gd_Reader_allNamesHaveRules_83 gh_k88 hF rfl ?_
      refine gh_iconst gd_Reader_allNamesHaveRules_86 (gh_r0 rfl) ?_
      obtain ⟨hA, hB⟩ := h
      refine gh_jne (tgt := 92) gd_Reader_allNamesHaveRules_87 (by decide) (fun c498 => ?_) (fun c498 => ?_)
      · have h := hA c498
        refine gh_iconst gd_Reader_allNamesHaveRules_90 (gh_r0 rfl) ?_
        exact gh_ret8 rfl gd_Reader_allNamesHaveRules_91 (by decide) ⟨hF, h⟩
      · have h := hB c498
        refine gh_aload_n gd_Reader_allNamesHaveRules_92 0 rfl (by decide) ?_
        refine gf_5_3 gd_Reader_allNamesHaveRules_93 gh_k147 hF ?_
        refine gf_3_2 gd_Reader_allNamesHaveRules_96 gh_k88 hF rfl ?_
        refine gh_name (fun v1' hn => ?_)
        have h := h v1' hn
        refine gh_istore_n (L2 := [(1, 0, v1'), (0, 2, 5), (2, 0, v2)]) gd_Reader_allNamesHaveRules_99 (by decide) rfl ?_
        obtain ⟨q499, h⟩ := h
        refine gh_iinc (L2 := [(2, 0, v2 + 1), (1, 0, v1'), (0, 2, 5)]) gd_Reader_allNamesHaveRules_100 2 rfl q499 (by decide) rfl ?_
        refine gh_goto (tgt := 12) gd_Reader_allNamesHaveRules_103 (by decide) ?_
        refine gh_pick (L2 := [(0, 2, 5), (1, 0, v1'), (2, 0, v2 + 1)]) [2, 1, 0] rfl ?_
        exact hK12 v1' (v2 + 1) m497 hF h
    obtain ⟨hA, hB⟩ := h
    have k500 : (¬ ((m497 3 2) = 1) ∨ (v1 = 59)) → gh_T E (gh_yReader_allNamesHaveRules.cls, prog_9_method_3_code, 3, false, 8) (d + 3) 79 [(0, 2, 5), (1, 0, v1), (2, 0, v2)] [] m497 (fun r m1 => gh_F m1 ∧ Q r m1) := by
      intro c
      have h := hA c
      refine gh_pick (L2 := [(0, 2, 5), (2, 0, v2)]) [0, 2] rfl ?_
      exact hJ79 hF h
    have k501 : ¬ (¬ ((m497 3 2) = 1) ∨ (v1 = 59)) → gh_T E (gh_yReader_allNamesHaveRules.cls, prog_9_method_3_code, 3, false, 8) (d + 3) 43 [(0, 2, 5), (1, 0, v1), (2, 0, v2)] [] m497 (fun r m1 => gh_F m1 ∧ Q r m1) := by
      intro c
      have h := hB c
      refine gh_aload_n gd_Reader_allNamesHaveRules_43 0 rfl (by decide) ?_
      refine gf_5_0 gd_Reader_allNamesHaveRules_44 gh_k141 hF ?_
      refine gh_aload_n gd_Reader_allNamesHaveRules_47 0 rfl (by decide) ?_
      refine gf_5_3 gd_Reader_allNamesHaveRules_48 gh_k147 hF ?_
      refine cv_Tape_key (d := d + 2) gd_Reader_allNamesHaveRules_51 gh_k635 hF (Nat.le_of_ble_eq_true rfl) (gh_C.pw (s_Tape_key (d + 1) hF h) (fun r502 h => ?_))
      refine cv_Draft_find (d := d + 2) gd_Reader_allNamesHaveRules_54 gh_k639 hF (Nat.le_of_ble_eq_true rfl) (gh_C.pw (s_Draft_find (d + 2) r502 hF h) (fun r504 h => ?_))
      refine gh_iconst gd_Reader_allNamesHaveRules_57 (gh_r0 rfl) ?_
      obtain ⟨hA, hB⟩ := h
      refine gh_jne (tgt := 79) gd_Reader_allNamesHaveRules_58 (by decide) (fun c506 => ?_) (fun c506 => ?_)
      · have h := hA c506
        refine gh_aload_n gd_Reader_allNamesHaveRules_61 0 rfl (by decide) ?_
        refine gh_iconst gd_Reader_allNamesHaveRules_62 (gh_r0 rfl) ?_
        refine pf_5_1 gd_Reader_allNamesHaveRules_63 gh_k143 hF (fun hF => ?_)
        refine gh_aload_n gd_Reader_allNamesHaveRules_66 0 rfl (by decide) ?_
        refine gh_aload_n gd_Reader_allNamesHaveRules_67 0 rfl (by decide) ?_
        refine gf_5_3 gd_Reader_allNamesHaveRules_68 gh_k147 hF ?_
        refine gf_3_3 gd_Reader_allNamesHaveRules_71 gh_k90 hF (gh_u_a (by decide)) ?_
        refine pf_5_2 gd_Reader_allNamesHaveRules_74 gh_k145 hF (fun hF => ?_)
        refine gh_iconst gd_Reader_allNamesHaveRules_77 (gh_r0 rfl) ?_
        exact gh_ret8 rfl gd_Reader_allNamesHaveRules_78 (by decide) ⟨hF, h⟩
      · have h := hB c506
        refine gh_pick (L2 := [(0, 2, 5), (2, 0, v2)]) [0, 2] rfl ?_
        exact hJ79 hF h
    refine gh_jne (tgt := 79) gd_Reader_allNamesHaveRules_34 (by decide) (fun c507 => ?_) (fun c507 => ?_)
    · have hz : True := trivial
      refine gh_iload_n gd_Reader_allNamesHaveRules_37 1 rfl ?_
      refine gh_bipush gd_Reader_allNamesHaveRules_38 (by decide) (gh_r0 rfl) ?_
      refine gh_jeq (tgt := 79) gd_Reader_allNamesHaveRules_40 (by decide) (fun c508 => ?_) (fun c508 => ?_)
      · have hz : True := trivial
        exact k500 (Or.inr c508)
      · have hz : True := trivial
        exact k501 (fun z => z.elim (fun w => w c507) c508)
    · have hz : True := trivial
      exact k500 (Or.inl c507)
  · have h := hB c495
    refine gh_iconst gd_Reader_allNamesHaveRules_106 (gh_r0 rfl) ?_
    exact gh_ret8 rfl gd_Reader_allNamesHaveRules_107 (by decide) ⟨hF, h⟩
theorem s_Reader_allNamesHaveRules {E : gh_E} {m : gh_M} {Q : Int → gh_M → Prop} (d : Nat) (hF : gh_F m) (h : w_Reader_allNamesHaveRules m Q) : gh_C E gh_yReader_allNamesHaveRules prog_9_method_3_code 3 (some .boolean) 8 (d + 3) [(2, 5)] m (fun r m1 => gh_F m1 ∧ Q r m1) := by
  refine gh_enter2 (L := [(0, 2, 5)]) (by decide +kernel) gh_rt8 (Nat.le_of_ble_eq_true rfl) rfl rfl ?_
  unfold w_Reader_allNamesHaveRules at h
  refine gh_bipush gd_Reader_allNamesHaveRules_0 (by decide) (gh_r0 rfl) ?_
  refine gh_istore_n (L2 := [(1, 0, 59), (0, 2, 5)]) gd_Reader_allNamesHaveRules_2 (by decide) rfl ?_
  refine gh_aload_n gd_Reader_allNamesHaveRules_3 1 rfl (by decide) ?_
  refine gf_5_3 gd_Reader_allNamesHaveRules_4 gh_k147 hF ?_
  refine cv_Tape_rewind (d := d + 2) gd_Reader_allNamesHaveRules_7 gh_k586 hF (Nat.le_of_ble_eq_true rfl) (gh_C.mono (s_Tape_rewind (d + 2) hF h) (fun r493 m494 hq => ?_))
  obtain ⟨hF, h⟩ := hq
  refine gh_iconst gd_Reader_allNamesHaveRules_10 (gh_r0 rfl) ?_
  refine gh_istore_n (L2 := [(2, 0, 0), (1, 0, 59), (0, 2, 5)]) gd_Reader_allNamesHaveRules_11 (by decide) rfl ?_
  refine gh_pick (L2 := [(0, 2, 5), (1, 0, 59), (2, 0, 0)]) [2, 1, 0] rfl ?_
  exact gh_M2_sound (T := fun v1 v2 m => gh_T E (gh_yReader_allNamesHaveRules.cls, prog_9_method_3_code, 3, false, 8) (d + 3) 12 [(0, 2, 5), (1, 0, v1), (2, 0, v2)] [] m (fun r m1 => gh_F m1 ∧ Q r m1)) (fun _ _ m => gh_F m) (fun K12 v1 v2 m hK hF h => b_Reader_allNamesHaveRules_12 d hK v1 v2 m hF h) 59 0 m494 hF h
def f_Reader_run_31 (Q : Int → gh_M → Prop) (K31 : Int → gh_M → Prop) (v1 : Int) (m : gh_M) : Prop := ∃ J96 : gh_M → Prop, (∀ (m : gh_M), J96 m → w_Reader_allNamesHaveRules m (fun r513 m514 => (r513 = 0 ∨ r513 = 1) ∧ Q r513 m514)) ∧ ((v1 ≤ 240 → w_Tape_advance m (fun _ m518 => w_Reader_faultHere m518 (fun r519 => ((r519 = 0 → (((m518 3 2) = 4 → J96 m518) ∧ (¬ ((m518 3 2) = 4) → w_Reader_take m518 (fun _ m524 => gh_i (v1 + 1) ∧ K31 (v1 + 1) m524)))) ∧ (¬ (r519 = 0) → Q 0 (gh_u (gh_u m518 5 1 r519) 5 2 (m518 3 3))))))) ∧ (¬ (v1 ≤ 240) → J96 m))
def w_Reader_run (m : gh_M) (Q : Int → gh_M → Prop) : Prop := w_Draft_clear m (fun _ m510 => w_Tape_rewind m510 (fun _ m512 => gh_M1 (fun K31 v1 m => f_Reader_run_31 Q K31 v1 m) 0 (gh_u (gh_u (gh_u m512 5 4 0) 5 1 0) 5 2 (-1))))
theorem b_Reader_run_31 {E : gh_E} {Q : Int → gh_M → Prop} {K31 : Int → gh_M → Prop} (d : Nat) (hK : ∀ (v1 : Int) (m : gh_M), gh_F m → K31 v1 m → gh_T E (gh_yReader_run.cls, prog_9_method_2_code, 3, false, 8) (d + 4) 31 [(0, 2, 5), (1, 0, v1)] [] m (fun r m1 => gh_F m1 ∧ Q r m1)) (v1 : Int) (m : gh_M) (hF : gh_F m) (h : f_Reader_run_31 Q K31 v1 m) : gh_T E (gh_yReader_run.cls, prog_9_method_2_code, 3, false, 8) (d + 4) 31 [(0, 2, 5), (1, 0, v1)] [] m (fun r m1 => gh_F m1 ∧ Q r m1) := by
  have hK31 := hK
  unfold f_Reader_run_31 at h
  refine gh_iload_n gd_Reader_run_31 1 rfl ?_
  refine gh_sipush gd_Reader_run_32 (by decide) (gh_r0 rfl) ?_
  obtain ⟨J96, hJ96, h⟩ := h
  have hJ96 : ∀ (m : gh_M), gh_F m → J96 m → gh_T E (gh_yReader_run.cls, prog_9_method_2_code, 3, false, 8) (d + 4) 96 [(0, 2, 5)] [] m (fun r m1 => gh_F m1 ∧ Q r m1) := by
    intro m hF hj
    have h := hJ96 m hj
    refine gh_aload_n gd_Reader_run_96 0 rfl (by decide) ?_
    refine cv_Reader_allNamesHaveRules (d := d + 3) gd_Reader_run_97 gh_k710 hF (Nat.le_of_ble_eq_true rfl) (gh_C.mono (s_Reader_allNamesHaveRules d hF h) (fun r513 m514 hq => ?_))
    obtain ⟨hF, h⟩ := hq
    obtain ⟨q515, h⟩ := h
    exact gh_ret8 rfl gd_Reader_run_100 q515 ⟨hF, h⟩
  obtain ⟨hA, hB⟩ := h
  refine gh_jgt (tgt := 96) gd_Reader_run_35 (by decide) (fun c516 => ?_) (fun c516 => ?_)
  · have h := hA c516
    refine gh_aload_n gd_Reader_run_38 0 rfl (by decide) ?_
    refine gf_5_3 gd_Reader_run_39 gh_k147 hF ?_
    refine cv_Tape_advance (d := d + 3) gd_Reader_run_42 gh_k590 hF (Nat.le_of_ble_eq_true rfl) (gh_C.mono (s_Tape_advance (d + 1) hF h) (fun r517 m518 hq => ?_))
    obtain ⟨hF, h⟩ := hq
    refine gh_aload_n gd_Reader_run_45 0 rfl (by decide) ?_
    refine cv_Reader_faultHere (d := d + 3) gd_Reader_run_46 gh_k619 hF (Nat.le_of_ble_eq_true rfl) (gh_C.pw (s_Reader_faultHere d hF h) (fun r519 h => ?_))
    refine gh_istore_n (L2 := [(2, 0, r519), (0, 2, 5), (1, 0, v1)]) gd_Reader_run_49 (by decide) rfl ?_
    refine gh_iload_n gd_Reader_run_50 0 rfl ?_
    obtain ⟨hA, hB⟩ := h
    refine gh_zeq (tgt := 72) gd_Reader_run_51 (by decide) (fun c521 => ?_) (fun c521 => ?_)
    · have h := hA c521
      refine gh_aload_n gd_Reader_run_72 1 rfl (by decide) ?_
      refine gf_5_3 gd_Reader_run_73 gh_k147 hF ?_
      refine gf_3_2 gd_Reader_run_76 gh_k88 hF rfl ?_
      refine gh_iconst gd_Reader_run_79 (gh_r0 rfl) ?_
      obtain ⟨hA, hB⟩ := h
      refine gh_jne (tgt := 86) gd_Reader_run_80 (by decide) (fun c522 => ?_) (fun c522 => ?_)
      · have h := hA c522
        refine gh_goto (tgt := 96) gd_Reader_run_83 (by decide) ?_
        refine gh_pick (L2 := [(0, 2, 5)]) [1] rfl ?_
        exact hJ96 m518 hF h
      · have h := hB c522
        refine gh_aload_n gd_Reader_run_86 1 rfl (by decide) ?_
        refine cv_Reader_take (d := d + 3) gd_Reader_run_87 gh_k647 hF (Nat.le_of_ble_eq_true rfl) (gh_C.mono (s_Reader_take d hF h) (fun r523 m524 hq => ?_))
        obtain ⟨hF, h⟩ := hq
        obtain ⟨q525, h⟩ := h
        refine gh_iinc (L2 := [(1, 0, v1 + 1), (2, 0, r519), (0, 2, 5)]) gd_Reader_run_90 2 rfl q525 (by decide) rfl ?_
        refine gh_goto (tgt := 31) gd_Reader_run_93 (by decide) ?_
        refine gh_pick (L2 := [(0, 2, 5), (1, 0, v1 + 1)]) [2, 0] rfl ?_
        exact hK31 (v1 + 1) m524 hF h
    · have h := hB c521
      refine gh_aload_n gd_Reader_run_54 1 rfl (by decide) ?_
      refine gh_iload_n gd_Reader_run_55 0 rfl ?_
      refine pf_5_1 gd_Reader_run_56 gh_k143 hF (fun hF => ?_)
      refine gh_aload_n gd_Reader_run_59 1 rfl (by decide) ?_
      refine gh_aload_n gd_Reader_run_60 1 rfl (by decide) ?_
      refine gf_5_3 gd_Reader_run_61 gh_k147 hF ?_
      refine gf_3_3 gd_Reader_run_64 gh_k90 hF (gh_u_a (by decide)) ?_
      refine pf_5_2 gd_Reader_run_67 gh_k145 hF (fun hF => ?_)
      refine gh_iconst gd_Reader_run_70 (gh_r0 rfl) ?_
      exact gh_ret8 rfl gd_Reader_run_71 (by decide) ⟨hF, h⟩
  · have h := hB c516
    refine gh_pick (L2 := [(0, 2, 5)]) [0] rfl ?_
    exact hJ96 m hF h
theorem s_Reader_run {E : gh_E} {m : gh_M} {Q : Int → gh_M → Prop} (d : Nat) (hF : gh_F m) (h : w_Reader_run m Q) : gh_C E gh_yReader_run prog_9_method_2_code 3 (some .boolean) 8 (d + 4) [(2, 5)] m (fun r m1 => gh_F m1 ∧ Q r m1) := by
  refine gh_enter2 (L := [(0, 2, 5)]) (by decide +kernel) gh_rt8 (Nat.le_of_ble_eq_true rfl) rfl rfl ?_
  unfold w_Reader_run at h
  refine gh_aload_n gd_Reader_run_0 0 rfl (by decide) ?_
  refine gf_5_0 gd_Reader_run_1 gh_k141 hF ?_
  refine cv_Draft_clear (d := d + 3) gd_Reader_run_4 gh_k582 hF (Nat.le_of_ble_eq_true rfl) (gh_C.mono (s_Draft_clear (d + 3) hF h) (fun r509 m510 hq => ?_))
  obtain ⟨hF, h⟩ := hq
  refine gh_aload_n gd_Reader_run_7 0 rfl (by decide) ?_
  refine gf_5_3 gd_Reader_run_8 gh_k147 hF ?_
  refine cv_Tape_rewind (d := d + 3) gd_Reader_run_11 gh_k586 hF (Nat.le_of_ble_eq_true rfl) (gh_C.mono (s_Tape_rewind (d + 3) hF h) (fun r511 m512 hq => ?_))
  obtain ⟨hF, h⟩ := hq
  refine gh_aload_n gd_Reader_run_14 0 rfl (by decide) ?_
  refine gh_iconst gd_Reader_run_15 (gh_r0 rfl) ?_
  refine pf_5_4 gd_Reader_run_16 gh_k148 hF (fun hF => ?_)
  refine gh_aload_n gd_Reader_run_19 0 rfl (by decide) ?_
  refine gh_iconst gd_Reader_run_20 (gh_r0 rfl) ?_
  refine pf_5_1 gd_Reader_run_21 gh_k143 hF (fun hF => ?_)
  refine gh_aload_n gd_Reader_run_24 0 rfl (by decide) ?_
  refine gh_iconst gd_Reader_run_25 (gh_r0 rfl) ?_
  refine pf_5_2 gd_Reader_run_26 gh_k145 hF (fun hF => ?_)
  refine gh_iconst gd_Reader_run_29 (gh_r0 rfl) ?_
  refine gh_istore_n (L2 := [(1, 0, 0), (0, 2, 5)]) gd_Reader_run_30 (by decide) rfl ?_
  refine gh_pick (L2 := [(0, 2, 5), (1, 0, 0)]) [1, 0] rfl ?_
  exact gh_M1_sound (T := fun v1 m => gh_T E (gh_yReader_run.cls, prog_9_method_2_code, 3, false, 8) (d + 4) 31 [(0, 2, 5), (1, 0, v1)] [] m (fun r m1 => gh_F m1 ∧ Q r m1)) (fun _ m => gh_F m) (fun K31 v1 m hK hF h => b_Reader_run_31 d hK v1 m hF h) 0 (gh_u (gh_u (gh_u m512 5 4 0) 5 1 0) 5 2 (-1)) hF h
def f_Facts_isEmptyRow_3 (v1 : Int) (v3 : Int) (Q : Int → Prop) (m : gh_M) (K3 : Int → Prop) (v4 : Int) : Prop := 0 ≤ v1 ∧ v1 < 20 ∧ ((v4 < (m 17 v1) → k_Grammar_nameAt v1 v4 m ∧ ∀ v5 : Int, v5 = x_Grammar_nameAt v1 v4 m → ∃ J55 : Prop, (J55 → gh_i (v4 + 1) ∧ K3 (v4 + 1)) ∧ (((¬ (v4 = v3) ∧ ((v5 = (-1)) ∨ ((gh_iand_f (gh_ishr_f (m 20 1) v5) 1) = 0))) → Q 0) ∧ (¬ (¬ (v4 = v3) ∧ ((v5 = (-1)) ∨ ((gh_iand_f (gh_ishr_f (m 20 1) v5) 1) = 0))) → J55))) ∧ (¬ (v4 < (m 17 v1)) → Q 1))
def w_Facts_isEmptyRow (v1 : Int) (v2 : Int) (v3 : Int) (m : gh_M) (Q : Int → Prop) : Prop := gh_L1 (fun K3 v4 => f_Facts_isEmptyRow_3 v1 v3 Q m K3 v4) v2
theorem b_Facts_isEmptyRow_3 {E : gh_E} {v1 : Int} {v3 : Int} {Q : Int → Prop} {K3 : Int → Prop} (d : Nat) {m : gh_M} (hK : ∀ (v4 : Int), gh_F m → K3 v4 → gh_T E (gh_yFacts_isEmptyRow.cls, prog_4_method_5_code, 6, false, 8) (d + 2) 3 [(0, 2, 20), (1, 0, v1), (3, 0, v3), (4, 0, v4)] [] m (fun r m1 => m1 = m ∧ Q r)) (v4 : Int) (hF : gh_F m) (h : f_Facts_isEmptyRow_3 v1 v3 Q m K3 v4) : gh_T E (gh_yFacts_isEmptyRow.cls, prog_4_method_5_code, 6, false, 8) (d + 2) 3 [(0, 2, 20), (1, 0, v1), (3, 0, v3), (4, 0, v4)] [] m (fun r m1 => m1 = m ∧ Q r) := by
  have hK3 := hK
  unfold f_Facts_isEmptyRow_3 at h
  refine gh_iload gd_Facts_isEmptyRow_3 3 rfl ?_
  refine gh_aload_n gd_Facts_isEmptyRow_5 0 rfl (by decide) ?_
  refine gf_20_0 gd_Facts_isEmptyRow_6 gh_k239 hF ?_
  refine gf_13_6 gd_Facts_isEmptyRow_9 gh_k205 hF ?_
  refine gh_iload_n gd_Facts_isEmptyRow_12 1 rfl ?_
  obtain ⟨q526, h⟩ := h
  obtain ⟨q527, h⟩ := h
  refine la_17 gd_Facts_isEmptyRow_13 hF q526 q527 rfl ?_
  obtain ⟨hA, hB⟩ := h
  refine gh_jge (tgt := 61) gd_Facts_isEmptyRow_14 (by decide) (fun c528 => ?_) (fun c528 => ?_)
  · have h := hA c528
    refine gh_aload_n gd_Facts_isEmptyRow_17 0 rfl (by decide) ?_
    refine gf_20_0 gd_Facts_isEmptyRow_18 gh_k239 hF ?_
    refine gh_iload_n gd_Facts_isEmptyRow_21 1 rfl ?_
    refine gh_iload gd_Facts_isEmptyRow_22 3 rfl ?_
    obtain ⟨q529, h⟩ := h
    refine cv_Grammar_nameAt (d := d + 1) gd_Facts_isEmptyRow_24 gh_k753 hF (Nat.le_of_ble_eq_true rfl) (gh_C.pe (e_Grammar_nameAt d v1 v4 hF q529) ?_)
    refine gh_name (fun v5 hn => ?_)
    have h := h v5 hn
    refine gh_istore (L2 := [(5, 0, v5), (0, 2, 20), (1, 0, v1), (3, 0, v3), (4, 0, v4)]) gd_Facts_isEmptyRow_27 (by decide) rfl ?_
    refine gh_iload gd_Facts_isEmptyRow_29 4 rfl ?_
    refine gh_iload_n gd_Facts_isEmptyRow_31 3 rfl ?_
    obtain ⟨J55, hJ55, h⟩ := h
    have hJ55 : gh_F m → J55 → gh_T E (gh_yFacts_isEmptyRow.cls, prog_4_method_5_code, 6, false, 8) (d + 2) 55 [(0, 2, 20), (1, 0, v1), (3, 0, v3), (4, 0, v4)] [] m (fun r m1 => m1 = m ∧ Q r) := by
      intro hF hj
      have h := hJ55 hj
      obtain ⟨q530, h⟩ := h
      refine gh_iinc (L2 := [(4, 0, v4 + 1), (0, 2, 20), (1, 0, v1), (3, 0, v3)]) gd_Facts_isEmptyRow_55 3 rfl q530 (by decide) rfl ?_
      refine gh_goto (tgt := 3) gd_Facts_isEmptyRow_58 (by decide) ?_
      refine gh_pick (L2 := [(0, 2, 20), (1, 0, v1), (3, 0, v3), (4, 0, v4 + 1)]) [1, 2, 3, 0] rfl ?_
      exact hK3 (v4 + 1) hF h
    obtain ⟨hA, hB⟩ := h
    have k531 : (¬ (v4 = v3) ∧ ((v5 = (-1)) ∨ ((gh_iand_f (gh_ishr_f (m 20 1) v5) 1) = 0))) → gh_T E (gh_yFacts_isEmptyRow.cls, prog_4_method_5_code, 6, false, 8) (d + 2) 53 [(5, 0, v5), (0, 2, 20), (1, 0, v1), (3, 0, v3), (4, 0, v4)] [] m (fun r m1 => m1 = m ∧ Q r) := by
      intro c
      have h := hA c
      refine gh_iconst gd_Facts_isEmptyRow_53 (gh_r0 rfl) ?_
      exact gh_ret8 rfl gd_Facts_isEmptyRow_54 (by decide) ⟨rfl, h⟩
    have k532 : ¬ (¬ (v4 = v3) ∧ ((v5 = (-1)) ∨ ((gh_iand_f (gh_ishr_f (m 20 1) v5) 1) = 0))) → gh_T E (gh_yFacts_isEmptyRow.cls, prog_4_method_5_code, 6, false, 8) (d + 2) 55 [(5, 0, v5), (0, 2, 20), (1, 0, v1), (3, 0, v3), (4, 0, v4)] [] m (fun r m1 => m1 = m ∧ Q r) := by
      intro c
      have h := hB c
      refine gh_pick (L2 := [(0, 2, 20), (1, 0, v1), (3, 0, v3), (4, 0, v4)]) [1, 2, 3, 4] rfl ?_
      exact hJ55 hF h
    refine gh_jeq (tgt := 55) gd_Facts_isEmptyRow_32 (by decide) (fun c533 => ?_) (fun c533 => ?_)
    · have hz : True := trivial
      exact k532 (fun z => z.1 c533)
    · have hz : True := trivial
      refine gh_iload gd_Facts_isEmptyRow_35 0 rfl ?_
      refine gh_iconst gd_Facts_isEmptyRow_37 (gh_r0 rfl) ?_
      refine gh_jeq (tgt := 53) gd_Facts_isEmptyRow_38 (by decide) (fun c534 => ?_) (fun c534 => ?_)
      · have hz : True := trivial
        exact k531 ⟨c533, (Or.inl c534)⟩
      · have hz : True := trivial
        refine gh_aload_n gd_Facts_isEmptyRow_41 1 rfl (by decide) ?_
        refine gf_20_1 gd_Facts_isEmptyRow_42 gh_k240 hF rfl ?_
        refine gh_iload gd_Facts_isEmptyRow_45 0 rfl ?_
        refine gh_ishr gd_Facts_isEmptyRow_47 ?_
        refine gh_iconst gd_Facts_isEmptyRow_48 (gh_r0 rfl) ?_
        refine gh_iand gd_Facts_isEmptyRow_49 ?_
        refine gh_zne (tgt := 55) gd_Facts_isEmptyRow_50 (by decide) (fun c535 => ?_) (fun c535 => ?_)
        · have hz : True := trivial
          exact k531 ⟨c533, (Or.inr c535)⟩
        · have hz : True := trivial
          exact k532 (fun z => (fun z => z.elim c534 c535) z.2)
  · have h := hB c528
    refine gh_iconst gd_Facts_isEmptyRow_61 (gh_r0 rfl) ?_
    exact gh_ret8 rfl gd_Facts_isEmptyRow_62 (by decide) ⟨rfl, h⟩
theorem s_Facts_isEmptyRow {E : gh_E} {m : gh_M} {Q : Int → Prop} (d : Nat) (v1 : Int) (v2 : Int) (v3 : Int) (hF : gh_F m) (h : w_Facts_isEmptyRow v1 v2 v3 m Q) : gh_C E gh_yFacts_isEmptyRow prog_4_method_5_code 6 (some .boolean) 8 (d + 2) [(2, 20), (0, v1), (0, v2), (0, v3)] m (fun r m1 => m1 = m ∧ Q r) := by
  refine gh_enter2 (L := [(0, 2, 20), (1, 0, v1), (2, 0, v2), (3, 0, v3)]) (by decide +kernel) gh_rt8 (Nat.le_of_ble_eq_true rfl) rfl rfl ?_
  unfold w_Facts_isEmptyRow at h
  refine gh_iload_n gd_Facts_isEmptyRow_0 2 rfl ?_
  refine gh_istore (L2 := [(4, 0, v2), (0, 2, 20), (1, 0, v1), (2, 0, v2), (3, 0, v3)]) gd_Facts_isEmptyRow_1 (by decide) rfl ?_
  refine gh_pick (L2 := [(0, 2, 20), (1, 0, v1), (3, 0, v3), (4, 0, v2)]) [1, 2, 4, 0] rfl ?_
  exact gh_L1_sound (T := fun v4 => gh_T E (gh_yFacts_isEmptyRow.cls, prog_4_method_5_code, 6, false, 8) (d + 2) 3 [(0, 2, 20), (1, 0, v1), (3, 0, v3), (4, 0, v4)] [] m (fun r m1 => m1 = m ∧ Q r)) (fun _ => gh_F m) (fun K3 v4 hK hF h => b_Facts_isEmptyRow_3 d hK v4 hF h) v2 hF h
def f_Facts_findEmpty_20 (v1 : Int) (K7 : Int → gh_M → Prop) (K20 : Int → gh_M → Prop) (v2 : Int) (m : gh_M) : Prop := ((v2 < (m 13 2) → w_Facts_isEmptyRow v2 0 (-1) m (fun r538 => ∃ J61 : gh_M → Prop, (∀ (m : gh_M), J61 m → gh_i (v2 + 1) ∧ K20 (v2 + 1) m) ∧ ((r538 = 0 → J61 m) ∧ (¬ (r538 = 0) → 0 ≤ v2 ∧ v2 < 20 ∧ J61 (gh_u m 20 1 (gh_ior_f (m 20 1) (gh_ishl_f 1 (m 16 v2)))))))) ∧ (¬ (v2 < (m 13 2)) → gh_i (v1 + 1) ∧ K7 (v1 + 1) m))
def f_Facts_findEmpty_7 (Q : Int → gh_M → Prop) (K7 : Int → gh_M → Prop) (v1 : Int) (m : gh_M) : Prop := ((v1 < (m 13 1) → gh_M1 (fun K20 v2 m => f_Facts_findEmpty_20 v1 K7 K20 v2 m) 0 m) ∧ (¬ (v1 < (m 13 1)) → Q 0 m))
def w_Facts_findEmpty (m : gh_M) (Q : Int → gh_M → Prop) : Prop := gh_M1 (fun K7 v1 m => f_Facts_findEmpty_7 Q K7 v1 m) 0 (gh_u m 20 1 0)
theorem b_Facts_findEmpty_20 {E : gh_E} {v1 : Int} {K7 : Int → gh_M → Prop} {Q : Int → gh_M → Prop} {K20 : Int → gh_M → Prop} (d : Nat) (hK7 : ∀ (v1 : Int) (m : gh_M), gh_F m → K7 v1 m → gh_T E (gh_yFacts_findEmpty.cls, prog_4_method_4_code, 3, false, 9) (d + 3) 7 [(0, 2, 20), (1, 0, v1)] [] m (fun r m1 => gh_F m1 ∧ Q r m1)) (hK : ∀ (v2 : Int) (m : gh_M), gh_F m → K20 v2 m → gh_T E (gh_yFacts_findEmpty.cls, prog_4_method_4_code, 3, false, 9) (d + 3) 20 [(0, 2, 20), (1, 0, v1), (2, 0, v2)] [] m (fun r m1 => gh_F m1 ∧ Q r m1)) (v2 : Int) (m : gh_M) (hF : gh_F m) (h : f_Facts_findEmpty_20 v1 K7 K20 v2 m) : gh_T E (gh_yFacts_findEmpty.cls, prog_4_method_4_code, 3, false, 9) (d + 3) 20 [(0, 2, 20), (1, 0, v1), (2, 0, v2)] [] m (fun r m1 => gh_F m1 ∧ Q r m1) := by
  have hK20 := hK
  unfold f_Facts_findEmpty_20 at h
  refine gh_iload_n gd_Facts_findEmpty_20 2 rfl ?_
  refine gh_aload_n gd_Facts_findEmpty_21 0 rfl (by decide) ?_
  refine gf_20_0 gd_Facts_findEmpty_22 gh_k239 hF ?_
  refine gf_13_2 gd_Facts_findEmpty_25 gh_k187 hF rfl ?_
  obtain ⟨hA, hB⟩ := h
  refine gh_jge (tgt := 67) gd_Facts_findEmpty_28 (by decide) (fun c537 => ?_) (fun c537 => ?_)
  · have h := hA c537
    refine gh_aload_n gd_Facts_findEmpty_31 0 rfl (by decide) ?_
    refine gh_iload_n gd_Facts_findEmpty_32 2 rfl ?_
    refine gh_iconst gd_Facts_findEmpty_33 (gh_r0 rfl) ?_
    refine gh_iconst gd_Facts_findEmpty_34 (gh_r0 rfl) ?_
    refine cv_Facts_isEmptyRow (d := d + 2) gd_Facts_findEmpty_35 gh_k749 hF (Nat.le_of_ble_eq_true rfl) (gh_C.pw (s_Facts_isEmptyRow d v2 0 (-1) hF h) (fun r538 h => ?_))
    obtain ⟨J61, hJ61, h⟩ := h
    have hJ61 : ∀ (m : gh_M), gh_F m → J61 m → gh_T E (gh_yFacts_findEmpty.cls, prog_4_method_4_code, 3, false, 9) (d + 3) 61 [(0, 2, 20), (1, 0, v1), (2, 0, v2)] [] m (fun r m1 => gh_F m1 ∧ Q r m1) := by
      intro m hF hj
      have h := hJ61 m hj
      obtain ⟨q540, h⟩ := h
      refine gh_iinc (L2 := [(2, 0, v2 + 1), (0, 2, 20), (1, 0, v1)]) gd_Facts_findEmpty_61 2 rfl q540 (by decide) rfl ?_
      refine gh_goto (tgt := 20) gd_Facts_findEmpty_64 (by decide) ?_
      refine gh_pick (L2 := [(0, 2, 20), (1, 0, v1), (2, 0, v2 + 1)]) [1, 2, 0] rfl ?_
      exact hK20 (v2 + 1) m hF h
    obtain ⟨hA, hB⟩ := h
    refine gh_zeq (tgt := 61) gd_Facts_findEmpty_38 (by decide) (fun c541 => ?_) (fun c541 => ?_)
    · have h := hA c541
      exact hJ61 m hF h
    · have h := hB c541
      refine gh_aload_n gd_Facts_findEmpty_41 0 rfl (by decide) ?_
      refine gh_dup gd_Facts_findEmpty_42 (by decide) ?_
      refine gf_20_1 gd_Facts_findEmpty_43 gh_k240 hF rfl ?_
      refine gh_iconst gd_Facts_findEmpty_46 (gh_r0 rfl) ?_
      refine gh_aload_n gd_Facts_findEmpty_47 0 rfl (by decide) ?_
      refine gf_20_0 gd_Facts_findEmpty_48 gh_k239 hF ?_
      refine gf_13_5 gd_Facts_findEmpty_51 gh_k200 hF ?_
      refine gh_iload_n gd_Facts_findEmpty_54 2 rfl ?_
      obtain ⟨q542, h⟩ := h
      obtain ⟨q543, h⟩ := h
      refine la_16 gd_Facts_findEmpty_55 hF q542 q543 rfl ?_
      refine gh_ishl gd_Facts_findEmpty_56 ?_
      refine gh_ior gd_Facts_findEmpty_57 ?_
      refine pf_20_1 gd_Facts_findEmpty_58 gh_k240 hF (fun hF => ?_)
      exact hJ61 (gh_u m 20 1 (gh_ior_f (m 20 1) (gh_ishl_f 1 (m 16 v2)))) hF h
  · have h := hB c537
    obtain ⟨q544, h⟩ := h
    refine gh_iinc (L2 := [(1, 0, v1 + 1), (0, 2, 20), (2, 0, v2)]) gd_Facts_findEmpty_67 1 rfl q544 (by decide) rfl ?_
    refine gh_goto (tgt := 7) gd_Facts_findEmpty_70 (by decide) ?_
    refine gh_pick (L2 := [(0, 2, 20), (1, 0, v1 + 1)]) [1, 0] rfl ?_
    exact hK7 (v1 + 1) m hF h
theorem b_Facts_findEmpty_7 {E : gh_E} {Q : Int → gh_M → Prop} {K7 : Int → gh_M → Prop} (d : Nat) (hK : ∀ (v1 : Int) (m : gh_M), gh_F m → K7 v1 m → gh_T E (gh_yFacts_findEmpty.cls, prog_4_method_4_code, 3, false, 9) (d + 3) 7 [(0, 2, 20), (1, 0, v1)] [] m (fun r m1 => gh_F m1 ∧ Q r m1)) (v1 : Int) (m : gh_M) (hF : gh_F m) (h : f_Facts_findEmpty_7 Q K7 v1 m) : gh_T E (gh_yFacts_findEmpty.cls, prog_4_method_4_code, 3, false, 9) (d + 3) 7 [(0, 2, 20), (1, 0, v1)] [] m (fun r m1 => gh_F m1 ∧ Q r m1) := by
  have hK7 := hK
  unfold f_Facts_findEmpty_7 at h
  refine gh_iload_n gd_Facts_findEmpty_7 1 rfl ?_
  refine gh_aload_n gd_Facts_findEmpty_8 0 rfl (by decide) ?_
  refine gf_20_0 gd_Facts_findEmpty_9 gh_k239 hF ?_
  refine gf_13_1 gd_Facts_findEmpty_12 gh_k182 hF rfl ?_
  obtain ⟨hA, hB⟩ := h
  refine gh_jge (tgt := 73) gd_Facts_findEmpty_15 (by decide) (fun c536 => ?_) (fun c536 => ?_)
  · have h := hA c536
    refine gh_iconst gd_Facts_findEmpty_18 (gh_r0 rfl) ?_
    refine gh_istore_n (L2 := [(2, 0, 0), (0, 2, 20), (1, 0, v1)]) gd_Facts_findEmpty_19 (by decide) rfl ?_
    refine gh_pick (L2 := [(0, 2, 20), (1, 0, v1), (2, 0, 0)]) [1, 2, 0] rfl ?_
    exact gh_M1_sound (T := fun v2 m => gh_T E (gh_yFacts_findEmpty.cls, prog_4_method_4_code, 3, false, 9) (d + 3) 20 [(0, 2, 20), (1, 0, v1), (2, 0, v2)] [] m (fun r m1 => gh_F m1 ∧ Q r m1)) (fun _ m => gh_F m) (fun K20 v2 m hK hF h => b_Facts_findEmpty_20 d hK7 hK v2 m hF h) 0 m hF h
  · have h := hB c536
    exact gh_ret9 rfl gd_Facts_findEmpty_73 ⟨hF, h⟩
theorem s_Facts_findEmpty {E : gh_E} {m : gh_M} {Q : Int → gh_M → Prop} (d : Nat) (hF : gh_F m) (h : w_Facts_findEmpty m Q) : gh_C E gh_yFacts_findEmpty prog_4_method_4_code 3 none 9 (d + 3) [(2, 20)] m (fun r m1 => gh_F m1 ∧ Q r m1) := by
  refine gh_enter2 (L := [(0, 2, 20)]) (by decide +kernel) gh_rt9 (Nat.le_of_ble_eq_true rfl) rfl rfl ?_
  unfold w_Facts_findEmpty at h
  refine gh_aload_n gd_Facts_findEmpty_0 0 rfl (by decide) ?_
  refine gh_iconst gd_Facts_findEmpty_1 (gh_r0 rfl) ?_
  refine pf_20_1 gd_Facts_findEmpty_2 gh_k240 hF (fun hF => ?_)
  refine gh_iconst gd_Facts_findEmpty_5 (gh_r0 rfl) ?_
  refine gh_istore_n (L2 := [(1, 0, 0), (0, 2, 20)]) gd_Facts_findEmpty_6 (by decide) rfl ?_
  refine gh_pick (L2 := [(0, 2, 20), (1, 0, 0)]) [1, 0] rfl ?_
  exact gh_M1_sound (T := fun v1 m => gh_T E (gh_yFacts_findEmpty.cls, prog_4_method_4_code, 3, false, 9) (d + 3) 7 [(0, 2, 20), (1, 0, v1)] [] m (fun r m1 => gh_F m1 ∧ Q r m1)) (fun _ m => gh_F m) (fun K7 v1 m hK hF h => b_Facts_findEmpty_7 d hK v1 m hF h) 0 (gh_u m 20 1 0) hF h
def f_Facts_leastOfRow_5 (v1 : Int) (Q : Int → Prop) (m : gh_M) (K5 : Int → Int → Prop) (v3 : Int) (v4 : Int) : Prop := 0 ≤ v1 ∧ v1 < 20 ∧ ((v4 < (m 17 v1) → k_Grammar_nameAt v1 v4 m ∧ ∀ v5 : Int, v5 = x_Grammar_nameAt v1 v4 m → ((¬ (v5 = (-1)) → (0 ≤ v5 ∧ v5 < 8))) ∧ gh_i (v3 + (if v5 = (-1) then 1 else (m 21 v5))) ∧ ∀ v3' : Int, v3' = v3 + (if v5 = (-1) then 1 else (m 21 v5)) → gh_i (v4 + 1) ∧ K5 v3' (v4 + 1)) ∧ (¬ (v4 < (m 17 v1)) → Q (min v3 16777216)))
def w_Facts_leastOfRow (v1 : Int) (v2 : Int) (m : gh_M) (Q : Int → Prop) : Prop := gh_L2 (fun K5 v3 v4 => f_Facts_leastOfRow_5 v1 Q m K5 v3 v4) 0 v2
theorem b_Facts_leastOfRow_5 {E : gh_E} {v1 : Int} {Q : Int → Prop} {K5 : Int → Int → Prop} (d : Nat) {m : gh_M} (hK : ∀ (v3 : Int) (v4 : Int), gh_F m → K5 v3 v4 → gh_T E (gh_yFacts_leastOfRow.cls, prog_4_method_7_code, 6, false, 0) (d + 2) 5 [(0, 2, 20), (1, 0, v1), (3, 0, v3), (4, 0, v4)] [] m (fun r m1 => m1 = m ∧ Q r)) (v3 : Int) (v4 : Int) (hF : gh_F m) (h : f_Facts_leastOfRow_5 v1 Q m K5 v3 v4) : gh_T E (gh_yFacts_leastOfRow.cls, prog_4_method_7_code, 6, false, 0) (d + 2) 5 [(0, 2, 20), (1, 0, v1), (3, 0, v3), (4, 0, v4)] [] m (fun r m1 => m1 = m ∧ Q r) := by
  have hK5 := hK
  unfold f_Facts_leastOfRow_5 at h
  refine gh_iload gd_Facts_leastOfRow_5 3 rfl ?_
  refine gh_aload_n gd_Facts_leastOfRow_7 0 rfl (by decide) ?_
  refine gf_20_0 gd_Facts_leastOfRow_8 gh_k239 hF ?_
  refine gf_13_6 gd_Facts_leastOfRow_11 gh_k205 hF ?_
  refine gh_iload_n gd_Facts_leastOfRow_14 1 rfl ?_
  obtain ⟨q545, h⟩ := h
  obtain ⟨q546, h⟩ := h
  refine la_17 gd_Facts_leastOfRow_15 hF q545 q546 rfl ?_
  obtain ⟨hA, hB⟩ := h
  refine gh_jge (tgt := 57) gd_Facts_leastOfRow_16 (by decide) (fun c547 => ?_) (fun c547 => ?_)
  · have h := hA c547
    refine gh_aload_n gd_Facts_leastOfRow_19 0 rfl (by decide) ?_
    refine gf_20_0 gd_Facts_leastOfRow_20 gh_k239 hF ?_
    refine gh_iload_n gd_Facts_leastOfRow_23 1 rfl ?_
    refine gh_iload gd_Facts_leastOfRow_24 3 rfl ?_
    obtain ⟨q548, h⟩ := h
    refine cv_Grammar_nameAt (d := d + 1) gd_Facts_leastOfRow_26 gh_k753 hF (Nat.le_of_ble_eq_true rfl) (gh_C.pe (e_Grammar_nameAt d v1 v4 hF q548) ?_)
    refine gh_name (fun v5 hn => ?_)
    have h := h v5 hn
    refine gh_istore (L2 := [(5, 0, v5), (0, 2, 20), (1, 0, v1), (3, 0, v3), (4, 0, v4)]) gd_Facts_leastOfRow_29 (by decide) rfl ?_
    refine gh_iload_n gd_Facts_leastOfRow_31 3 rfl ?_
    refine gh_iload gd_Facts_leastOfRow_32 0 rfl ?_
    refine gh_iconst gd_Facts_leastOfRow_34 (gh_r0 rfl) ?_
    obtain ⟨hk, h⟩ := h
    have k551 : ∀ x552 : Int, x552 = (if v5 = (-1) then 1 else (m 21 v5)) → gh_T E (gh_yFacts_leastOfRow.cls, prog_4_method_7_code, 6, false, 0) (d + 2) 49 [(5, 0, v5), (0, 2, 20), (1, 0, v1), (3, 0, v3), (4, 0, v4)] [(0, x552), (0, v3)] m (fun r m1 => m1 = m ∧ Q r) := by
      rintro _ rfl
      obtain ⟨q553, h⟩ := h
      refine gh_iadd gd_Facts_leastOfRow_49 q553 ?_
      refine gh_name (fun v3' hn => ?_)
      have h := h v3' hn
      refine gh_istore_n (L2 := [(3, 0, v3'), (5, 0, v5), (0, 2, 20), (1, 0, v1), (4, 0, v4)]) gd_Facts_leastOfRow_50 (by decide) rfl ?_
      obtain ⟨q554, h⟩ := h
      refine gh_iinc (L2 := [(4, 0, v4 + 1), (3, 0, v3'), (5, 0, v5), (0, 2, 20), (1, 0, v1)]) gd_Facts_leastOfRow_51 4 rfl q554 (by decide) rfl ?_
      refine gh_goto (tgt := 5) gd_Facts_leastOfRow_54 (by decide) ?_
      refine gh_pick (L2 := [(0, 2, 20), (1, 0, v1), (3, 0, v3'), (4, 0, v4 + 1)]) [3, 4, 1, 0] rfl ?_
      exact hK5 v3' (v4 + 1) hF h
    refine gh_jne (tgt := 42) gd_Facts_leastOfRow_35 (by decide) (fun c555 => ?_) (fun c555 => ?_)
    · have hz : True := trivial
      refine gh_iconst gd_Facts_leastOfRow_38 (gh_r0 rfl) ?_
      refine gh_goto (tgt := 49) gd_Facts_leastOfRow_39 (by decide) ?_
      exact k551 _ (by rw [if_pos c555])
    · have hz : True := trivial
      have hk := hk c555
      refine gh_aload_n gd_Facts_leastOfRow_42 1 rfl (by decide) ?_
      refine gf_20_6 gd_Facts_leastOfRow_43 gh_k252 hF ?_
      refine gh_iload gd_Facts_leastOfRow_46 0 rfl ?_
      obtain ⟨q549, hk⟩ := hk
      have q550 := hk
      refine la_21 gd_Facts_leastOfRow_48 hF q549 q550 rfl ?_
      exact k551 _ (by rw [if_neg c555])
  · have h := hB c547
    refine gh_iload_n gd_Facts_leastOfRow_57 2 rfl ?_
    refine gh_ldc (n := 16777216) gd_Facts_leastOfRow_58 gh_k769 (by decide) (gh_r0 rfl) ?_
    refine gh_pr_min gd_Facts_leastOfRow_60 gh_k777 (Nat.le_of_ble_eq_true rfl) ?_
    exact gh_ret0 rfl gd_Facts_leastOfRow_63 ⟨rfl, h⟩
theorem s_Facts_leastOfRow {E : gh_E} {m : gh_M} {Q : Int → Prop} (d : Nat) (v1 : Int) (v2 : Int) (hF : gh_F m) (h : w_Facts_leastOfRow v1 v2 m Q) : gh_C E gh_yFacts_leastOfRow prog_4_method_7_code 6 (some .int) 0 (d + 2) [(2, 20), (0, v1), (0, v2)] m (fun r m1 => m1 = m ∧ Q r) := by
  refine gh_enter2 (L := [(0, 2, 20), (1, 0, v1), (2, 0, v2)]) (by decide +kernel) gh_rt0 (Nat.le_of_ble_eq_true rfl) rfl rfl ?_
  unfold w_Facts_leastOfRow at h
  refine gh_iconst gd_Facts_leastOfRow_0 (gh_r0 rfl) ?_
  refine gh_istore_n (L2 := [(3, 0, 0), (0, 2, 20), (1, 0, v1), (2, 0, v2)]) gd_Facts_leastOfRow_1 (by decide) rfl ?_
  refine gh_iload_n gd_Facts_leastOfRow_2 3 rfl ?_
  refine gh_istore (L2 := [(4, 0, v2), (3, 0, 0), (0, 2, 20), (1, 0, v1), (2, 0, v2)]) gd_Facts_leastOfRow_3 (by decide) rfl ?_
  refine gh_pick (L2 := [(0, 2, 20), (1, 0, v1), (3, 0, 0), (4, 0, v2)]) [2, 3, 1, 0] rfl ?_
  exact gh_L2_sound (T := fun v3 v4 => gh_T E (gh_yFacts_leastOfRow.cls, prog_4_method_7_code, 6, false, 0) (d + 2) 5 [(0, 2, 20), (1, 0, v1), (3, 0, v3), (4, 0, v4)] [] m (fun r m1 => m1 = m ∧ Q r)) (fun _ _ => gh_F m) (fun K5 v3 v4 hK hF h => b_Facts_leastOfRow_5 d hK v3 v4 hF h) 0 v2 hF h
def f_Facts_findLeast_24 (v1 : Int) (K11 : Int → gh_M → Prop) (K24 : Int → gh_M → Prop) (v2 : Int) (m : gh_M) : Prop := ((v2 < (m 13 2) → 0 ≤ v2 ∧ v2 < 20 ∧ ∀ v3 : Int, v3 = m 16 v2 → 0 ≤ v3 ∧ v3 < 8 ∧ w_Facts_leastOfRow v2 0 m (fun r562 => 0 ≤ v3 ∧ v3 < 8 ∧ gh_i (v2 + 1) ∧ K24 (v2 + 1) (gh_u m 21 v3 (min (m 21 v3) r562)))) ∧ (¬ (v2 < (m 13 2)) → gh_i (v1 + 1) ∧ K11 (v1 + 1) m))
def f_Facts_findLeast_85 (Q : Int → gh_M → Prop) (K85 : Int → gh_M → Prop) (v1 : Int) (m : gh_M) : Prop := ((v1 < (m 13 1) → 0 ≤ v1 ∧ v1 < 8 ∧ ∃ J119 : gh_M → Prop, (∀ (m : gh_M), J119 m → gh_i (v1 + 1) ∧ K85 (v1 + 1) m) ∧ (((m 21 v1) < 16777216 → J119 (gh_u m 20 2 (gh_ior_f (m 20 2) (gh_ishl_f 1 v1)))) ∧ (¬ ((m 21 v1) < 16777216) → J119 m))) ∧ (¬ (v1 < (m 13 1)) → Q 0 m))
def f_Facts_findLeast_11 (Q : Int → gh_M → Prop) (K11 : Int → gh_M → Prop) (v1 : Int) (m : gh_M) : Prop := ((v1 < (m 13 1) → gh_M1 (fun K24 v2 m => f_Facts_findLeast_24 v1 K11 K24 v2 m) 0 m) ∧ (¬ (v1 < (m 13 1)) → gh_M1 (fun K85 v1 m => f_Facts_findLeast_85 Q K85 v1 m) 0 (gh_u m 20 2 0)))
def w_Facts_findLeast (m : gh_M) (Q : Int → gh_M → Prop) : Prop := gh_M1 (fun K11 v1 m => f_Facts_findLeast_11 Q K11 v1 m) 0 (gh_fil m 21 8 16777216)
theorem b_Facts_findLeast_24 {E : gh_E} {v1 : Int} {K11 : Int → gh_M → Prop} {Q : Int → gh_M → Prop} {K24 : Int → gh_M → Prop} (d : Nat) (hK11 : ∀ (v1 : Int) (m : gh_M), gh_F m → K11 v1 m → gh_T E (gh_yFacts_findLeast.cls, prog_4_method_6_code, 4, false, 9) (d + 3) 11 [(0, 2, 20), (1, 0, v1)] [] m (fun r m1 => gh_F m1 ∧ Q r m1)) (hK : ∀ (v2 : Int) (m : gh_M), gh_F m → K24 v2 m → gh_T E (gh_yFacts_findLeast.cls, prog_4_method_6_code, 4, false, 9) (d + 3) 24 [(0, 2, 20), (1, 0, v1), (2, 0, v2)] [] m (fun r m1 => gh_F m1 ∧ Q r m1)) (v2 : Int) (m : gh_M) (hF : gh_F m) (h : f_Facts_findLeast_24 v1 K11 K24 v2 m) : gh_T E (gh_yFacts_findLeast.cls, prog_4_method_6_code, 4, false, 9) (d + 3) 24 [(0, 2, 20), (1, 0, v1), (2, 0, v2)] [] m (fun r m1 => gh_F m1 ∧ Q r m1) := by
  have hK24 := hK
  unfold f_Facts_findLeast_24 at h
  refine gh_iload_n gd_Facts_findLeast_24 2 rfl ?_
  refine gh_aload_n gd_Facts_findLeast_25 0 rfl (by decide) ?_
  refine gf_20_0 gd_Facts_findLeast_26 gh_k239 hF ?_
  refine gf_13_2 gd_Facts_findLeast_29 gh_k187 hF rfl ?_
  obtain ⟨hA, hB⟩ := h
  refine gh_jge (tgt := 72) gd_Facts_findLeast_32 (by decide) (fun c557 => ?_) (fun c557 => ?_)
  · have h := hA c557
    refine gh_aload_n gd_Facts_findLeast_35 0 rfl (by decide) ?_
    refine gf_20_0 gd_Facts_findLeast_36 gh_k239 hF ?_
    refine gf_13_5 gd_Facts_findLeast_39 gh_k200 hF ?_
    refine gh_iload_n gd_Facts_findLeast_42 2 rfl ?_
    obtain ⟨q558, h⟩ := h
    obtain ⟨q559, h⟩ := h
    refine la_16 gd_Facts_findLeast_43 hF q558 q559 rfl ?_
    refine gh_name (fun v3 hn => ?_)
    have h := h v3 hn
    refine gh_istore_n (L2 := [(3, 0, v3), (0, 2, 20), (1, 0, v1), (2, 0, v2)]) gd_Facts_findLeast_44 (by decide) rfl ?_
    refine gh_aload_n gd_Facts_findLeast_45 1 rfl (by decide) ?_
    refine gf_20_6 gd_Facts_findLeast_46 gh_k252 hF ?_
    refine gh_iload_n gd_Facts_findLeast_49 0 rfl ?_
    refine gh_aload_n gd_Facts_findLeast_50 1 rfl (by decide) ?_
    refine gf_20_6 gd_Facts_findLeast_51 gh_k252 hF ?_
    refine gh_iload_n gd_Facts_findLeast_54 0 rfl ?_
    obtain ⟨q560, h⟩ := h
    obtain ⟨q561, h⟩ := h
    refine la_21 gd_Facts_findLeast_55 hF q560 q561 rfl ?_
    refine gh_aload_n gd_Facts_findLeast_56 1 rfl (by decide) ?_
    refine gh_iload_n gd_Facts_findLeast_57 3 rfl ?_
    refine gh_iconst gd_Facts_findLeast_58 (gh_r0 rfl) ?_
    refine cv_Facts_leastOfRow (d := d + 2) gd_Facts_findLeast_59 gh_k773 hF (Nat.le_of_ble_eq_true rfl) (gh_C.pw (s_Facts_leastOfRow d v2 0 hF h) (fun r562 h => ?_))
    refine gh_pr_min gd_Facts_findLeast_62 gh_k777 (Nat.le_of_ble_eq_true rfl) ?_
    obtain ⟨q564, h⟩ := h
    obtain ⟨q565, h⟩ := h
    refine sa_21 gd_Facts_findLeast_65 hF q564 q565 (fun hF => ?_)
    obtain ⟨q566, h⟩ := h
    refine gh_iinc (L2 := [(2, 0, v2 + 1), (3, 0, v3), (0, 2, 20), (1, 0, v1)]) gd_Facts_findLeast_66 3 rfl q566 (by decide) rfl ?_
    refine gh_goto (tgt := 24) gd_Facts_findLeast_69 (by decide) ?_
    refine gh_pick (L2 := [(0, 2, 20), (1, 0, v1), (2, 0, v2 + 1)]) [2, 3, 0] rfl ?_
    exact hK24 (v2 + 1) (gh_u m 21 v3 (min (m 21 v3) r562)) hF h
  · have h := hB c557
    obtain ⟨q567, h⟩ := h
    refine gh_iinc (L2 := [(1, 0, v1 + 1), (0, 2, 20), (2, 0, v2)]) gd_Facts_findLeast_72 1 rfl q567 (by decide) rfl ?_
    refine gh_goto (tgt := 11) gd_Facts_findLeast_75 (by decide) ?_
    refine gh_pick (L2 := [(0, 2, 20), (1, 0, v1 + 1)]) [1, 0] rfl ?_
    exact hK11 (v1 + 1) m hF h
theorem b_Facts_findLeast_85 {E : gh_E} {Q : Int → gh_M → Prop} {K85 : Int → gh_M → Prop} (d : Nat) (hK : ∀ (v1 : Int) (m : gh_M), gh_F m → K85 v1 m → gh_T E (gh_yFacts_findLeast.cls, prog_4_method_6_code, 4, false, 9) (d + 3) 85 [(0, 2, 20), (1, 0, v1)] [] m (fun r m1 => gh_F m1 ∧ Q r m1)) (v1 : Int) (m : gh_M) (hF : gh_F m) (h : f_Facts_findLeast_85 Q K85 v1 m) : gh_T E (gh_yFacts_findLeast.cls, prog_4_method_6_code, 4, false, 9) (d + 3) 85 [(0, 2, 20), (1, 0, v1)] [] m (fun r m1 => gh_F m1 ∧ Q r m1) := by
  have hK85 := hK
  unfold f_Facts_findLeast_85 at h
  refine gh_iload_n gd_Facts_findLeast_85 1 rfl ?_
  refine gh_aload_n gd_Facts_findLeast_86 0 rfl (by decide) ?_
  refine gf_20_0 gd_Facts_findLeast_87 gh_k239 hF ?_
  refine gf_13_1 gd_Facts_findLeast_90 gh_k182 hF rfl ?_
  obtain ⟨hA, hB⟩ := h
  refine gh_jge (tgt := 125) gd_Facts_findLeast_93 (by decide) (fun c568 => ?_) (fun c568 => ?_)
  · have h := hA c568
    refine gh_aload_n gd_Facts_findLeast_96 0 rfl (by decide) ?_
    refine gf_20_6 gd_Facts_findLeast_97 gh_k252 hF ?_
    refine gh_iload_n gd_Facts_findLeast_100 1 rfl ?_
    obtain ⟨q569, h⟩ := h
    obtain ⟨q570, h⟩ := h
    refine la_21 gd_Facts_findLeast_101 hF q569 q570 rfl ?_
    refine gh_ldc (n := 16777216) gd_Facts_findLeast_102 gh_k769 (by decide) (gh_r0 rfl) ?_
    obtain ⟨J119, hJ119, h⟩ := h
    have hJ119 : ∀ (m : gh_M), gh_F m → J119 m → gh_T E (gh_yFacts_findLeast.cls, prog_4_method_6_code, 4, false, 9) (d + 3) 119 [(0, 2, 20), (1, 0, v1)] [] m (fun r m1 => gh_F m1 ∧ Q r m1) := by
      intro m hF hj
      have h := hJ119 m hj
      obtain ⟨q571, h⟩ := h
      refine gh_iinc (L2 := [(1, 0, v1 + 1), (0, 2, 20)]) gd_Facts_findLeast_119 1 rfl q571 (by decide) rfl ?_
      refine gh_goto (tgt := 85) gd_Facts_findLeast_122 (by decide) ?_
      refine gh_pick (L2 := [(0, 2, 20), (1, 0, v1 + 1)]) [1, 0] rfl ?_
      exact hK85 (v1 + 1) m hF h
    obtain ⟨hA, hB⟩ := h
    refine gh_jge (tgt := 119) gd_Facts_findLeast_104 (by decide) (fun c572 => ?_) (fun c572 => ?_)
    · have h := hA c572
      refine gh_aload_n gd_Facts_findLeast_107 0 rfl (by decide) ?_
      refine gh_dup gd_Facts_findLeast_108 (by decide) ?_
      refine gf_20_2 gd_Facts_findLeast_109 gh_k242 hF rfl ?_
      refine gh_iconst gd_Facts_findLeast_112 (gh_r0 rfl) ?_
      refine gh_iload_n gd_Facts_findLeast_113 1 rfl ?_
      refine gh_ishl gd_Facts_findLeast_114 ?_
      refine gh_ior gd_Facts_findLeast_115 ?_
      refine pf_20_2 gd_Facts_findLeast_116 gh_k242 hF (fun hF => ?_)
      exact hJ119 (gh_u m 20 2 (gh_ior_f (m 20 2) (gh_ishl_f 1 v1))) hF h
    · have h := hB c572
      exact hJ119 m hF h
  · have h := hB c568
    exact gh_ret9 rfl gd_Facts_findLeast_125 ⟨hF, h⟩
theorem b_Facts_findLeast_11 {E : gh_E} {Q : Int → gh_M → Prop} {K11 : Int → gh_M → Prop} (d : Nat) (hK : ∀ (v1 : Int) (m : gh_M), gh_F m → K11 v1 m → gh_T E (gh_yFacts_findLeast.cls, prog_4_method_6_code, 4, false, 9) (d + 3) 11 [(0, 2, 20), (1, 0, v1)] [] m (fun r m1 => gh_F m1 ∧ Q r m1)) (v1 : Int) (m : gh_M) (hF : gh_F m) (h : f_Facts_findLeast_11 Q K11 v1 m) : gh_T E (gh_yFacts_findLeast.cls, prog_4_method_6_code, 4, false, 9) (d + 3) 11 [(0, 2, 20), (1, 0, v1)] [] m (fun r m1 => gh_F m1 ∧ Q r m1) := by
  have hK11 := hK
  unfold f_Facts_findLeast_11 at h
  refine gh_iload_n gd_Facts_findLeast_11 1 rfl ?_
  refine gh_aload_n gd_Facts_findLeast_12 0 rfl (by decide) ?_
  refine gf_20_0 gd_Facts_findLeast_13 gh_k239 hF ?_
  refine gf_13_1 gd_Facts_findLeast_16 gh_k182 hF rfl ?_
  obtain ⟨hA, hB⟩ := h
  refine gh_jge (tgt := 78) gd_Facts_findLeast_19 (by decide) (fun c556 => ?_) (fun c556 => ?_)
  · have h := hA c556
    refine gh_iconst gd_Facts_findLeast_22 (gh_r0 rfl) ?_
    refine gh_istore_n (L2 := [(2, 0, 0), (0, 2, 20), (1, 0, v1)]) gd_Facts_findLeast_23 (by decide) rfl ?_
    refine gh_pick (L2 := [(0, 2, 20), (1, 0, v1), (2, 0, 0)]) [1, 2, 0] rfl ?_
    exact gh_M1_sound (T := fun v2 m => gh_T E (gh_yFacts_findLeast.cls, prog_4_method_6_code, 4, false, 9) (d + 3) 24 [(0, 2, 20), (1, 0, v1), (2, 0, v2)] [] m (fun r m1 => gh_F m1 ∧ Q r m1)) (fun _ m => gh_F m) (fun K24 v2 m hK hF h => b_Facts_findLeast_24 d hK11 hK v2 m hF h) 0 m hF h
  · have h := hB c556
    refine gh_aload_n gd_Facts_findLeast_78 0 rfl (by decide) ?_
    refine gh_iconst gd_Facts_findLeast_79 (gh_r0 rfl) ?_
    refine pf_20_2 gd_Facts_findLeast_80 gh_k242 hF (fun hF => ?_)
    refine gh_iconst gd_Facts_findLeast_83 (gh_r0 rfl) ?_
    refine gh_istore_n (L2 := [(1, 0, 0), (0, 2, 20)]) gd_Facts_findLeast_84 (by decide) rfl ?_
    refine gh_pick (L2 := [(0, 2, 20), (1, 0, 0)]) [1, 0] rfl ?_
    exact gh_M1_sound (T := fun v1 m => gh_T E (gh_yFacts_findLeast.cls, prog_4_method_6_code, 4, false, 9) (d + 3) 85 [(0, 2, 20), (1, 0, v1)] [] m (fun r m1 => gh_F m1 ∧ Q r m1)) (fun _ m => gh_F m) (fun K85 v1 m hK hF h => b_Facts_findLeast_85 d hK v1 m hF h) 0 (gh_u m 20 2 0) hF h
theorem s_Facts_findLeast {E : gh_E} {m : gh_M} {Q : Int → gh_M → Prop} (d : Nat) (hF : gh_F m) (h : w_Facts_findLeast m Q) : gh_C E gh_yFacts_findLeast prog_4_method_6_code 4 none 9 (d + 3) [(2, 20)] m (fun r m1 => gh_F m1 ∧ Q r m1) := by
  refine gh_enter2 (L := [(0, 2, 20)]) (by decide +kernel) gh_rt9 (Nat.le_of_ble_eq_true rfl) rfl rfl ?_
  unfold w_Facts_findLeast at h
  refine gh_aload_n gd_Facts_findLeast_0 0 rfl (by decide) ?_
  refine gf_20_6 gd_Facts_findLeast_1 gh_k252 hF ?_
  refine gh_ldc (n := 16777216) gd_Facts_findLeast_4 gh_k769 (by decide) (gh_r0 rfl) ?_
  refine gh_fillF (d := d + 2) gd_Facts_findLeast_6 gh_k770 (ga_21 hF) (Nat.le_of_ble_eq_true rfl) hF gn_21 (by decide) (fun hF => ?_)
  refine gh_iconst gd_Facts_findLeast_9 (gh_r0 rfl) ?_
  refine gh_istore_n (L2 := [(1, 0, 0), (0, 2, 20)]) gd_Facts_findLeast_10 (by decide) rfl ?_
  refine gh_pick (L2 := [(0, 2, 20), (1, 0, 0)]) [1, 0] rfl ?_
  exact gh_M1_sound (T := fun v1 m => gh_T E (gh_yFacts_findLeast.cls, prog_4_method_6_code, 4, false, 9) (d + 3) 11 [(0, 2, 20), (1, 0, v1)] [] m (fun r m1 => gh_F m1 ∧ Q r m1)) (fun _ m => gh_F m) (fun K11 v1 m hK hF h => b_Facts_findLeast_11 d hK v1 m hF h) 0 (gh_fil m 21 8 16777216) hF h
def f_Facts_findUsefulRules_7 (Q : Int → gh_M → Prop) (K7 : Int → gh_M → Prop) (v1 : Int) (m : gh_M) : Prop := ((v1 < (m 13 2) → w_Facts_leastOfRow v1 0 m (fun r574 => ∃ J41 : gh_M → Prop, (∀ (m : gh_M), J41 m → gh_i (v1 + 1) ∧ K7 (v1 + 1) m) ∧ ((r574 < 16777216 → J41 (gh_u m 20 5 (gh_ior_f (m 20 5) (gh_ishl_f 1 v1)))) ∧ (¬ (r574 < 16777216) → J41 m)))) ∧ (¬ (v1 < (m 13 2)) → Q 0 m))
def w_Facts_findUsefulRules (m : gh_M) (Q : Int → gh_M → Prop) : Prop := gh_M1 (fun K7 v1 m => f_Facts_findUsefulRules_7 Q K7 v1 m) 0 (gh_u m 20 5 0)
theorem b_Facts_findUsefulRules_7 {E : gh_E} {Q : Int → gh_M → Prop} {K7 : Int → gh_M → Prop} (d : Nat) (hK : ∀ (v1 : Int) (m : gh_M), gh_F m → K7 v1 m → gh_T E (gh_yFacts_findUsefulRules.cls, prog_4_method_8_code, 2, false, 9) (d + 3) 7 [(0, 2, 20), (1, 0, v1)] [] m (fun r m1 => gh_F m1 ∧ Q r m1)) (v1 : Int) (m : gh_M) (hF : gh_F m) (h : f_Facts_findUsefulRules_7 Q K7 v1 m) : gh_T E (gh_yFacts_findUsefulRules.cls, prog_4_method_8_code, 2, false, 9) (d + 3) 7 [(0, 2, 20), (1, 0, v1)] [] m (fun r m1 => gh_F m1 ∧ Q r m1) := by
  have hK7 := hK
  unfold f_Facts_findUsefulRules_7 at h
  refine gh_iload_n gd_Facts_findUsefulRules_7 1 rfl ?_
  refine gh_aload_n gd_Facts_findUsefulRules_8 0 rfl (by decide) ?_
  refine gf_20_0 gd_Facts_findUsefulRules_9 gh_k239 hF ?_
  refine gf_13_2 gd_Facts_findUsefulRules_12 gh_k187 hF rfl ?_
  obtain ⟨hA, hB⟩ := h
  refine gh_jge (tgt := 47) gd_Facts_findUsefulRules_15 (by decide) (fun c573 => ?_) (fun c573 => ?_)
  · have h := hA c573
    refine gh_aload_n gd_Facts_findUsefulRules_18 0 rfl (by decide) ?_
    refine gh_iload_n gd_Facts_findUsefulRules_19 1 rfl ?_
    refine gh_iconst gd_Facts_findUsefulRules_20 (gh_r0 rfl) ?_
    refine cv_Facts_leastOfRow (d := d + 2) gd_Facts_findUsefulRules_21 gh_k773 hF (Nat.le_of_ble_eq_true rfl) (gh_C.pw (s_Facts_leastOfRow d v1 0 hF h) (fun r574 h => ?_))
    refine gh_ldc (n := 16777216) gd_Facts_findUsefulRules_24 gh_k769 (by decide) (gh_r0 rfl) ?_
    obtain ⟨J41, hJ41, h⟩ := h
    have hJ41 : ∀ (m : gh_M), gh_F m → J41 m → gh_T E (gh_yFacts_findUsefulRules.cls, prog_4_method_8_code, 2, false, 9) (d + 3) 41 [(0, 2, 20), (1, 0, v1)] [] m (fun r m1 => gh_F m1 ∧ Q r m1) := by
      intro m hF hj
      have h := hJ41 m hj
      obtain ⟨q576, h⟩ := h
      refine gh_iinc (L2 := [(1, 0, v1 + 1), (0, 2, 20)]) gd_Facts_findUsefulRules_41 1 rfl q576 (by decide) rfl ?_
      refine gh_goto (tgt := 7) gd_Facts_findUsefulRules_44 (by decide) ?_
      refine gh_pick (L2 := [(0, 2, 20), (1, 0, v1 + 1)]) [1, 0] rfl ?_
      exact hK7 (v1 + 1) m hF h
    obtain ⟨hA, hB⟩ := h
    refine gh_jge (tgt := 41) gd_Facts_findUsefulRules_26 (by decide) (fun c577 => ?_) (fun c577 => ?_)
    · have h := hA c577
      refine gh_aload_n gd_Facts_findUsefulRules_29 0 rfl (by decide) ?_
      refine gh_dup gd_Facts_findUsefulRules_30 (by decide) ?_
      refine gf_20_5 gd_Facts_findUsefulRules_31 gh_k250 hF rfl ?_
      refine gh_iconst gd_Facts_findUsefulRules_34 (gh_r0 rfl) ?_
      refine gh_iload_n gd_Facts_findUsefulRules_35 1 rfl ?_
      refine gh_ishl gd_Facts_findUsefulRules_36 ?_
      refine gh_ior gd_Facts_findUsefulRules_37 ?_
      refine pf_20_5 gd_Facts_findUsefulRules_38 gh_k250 hF (fun hF => ?_)
      exact hJ41 (gh_u m 20 5 (gh_ior_f (m 20 5) (gh_ishl_f 1 v1))) hF h
    · have h := hB c577
      exact hJ41 m hF h
  · have h := hB c573
    exact gh_ret9 rfl gd_Facts_findUsefulRules_47 ⟨hF, h⟩
theorem s_Facts_findUsefulRules {E : gh_E} {m : gh_M} {Q : Int → gh_M → Prop} (d : Nat) (hF : gh_F m) (h : w_Facts_findUsefulRules m Q) : gh_C E gh_yFacts_findUsefulRules prog_4_method_8_code 2 none 9 (d + 3) [(2, 20)] m (fun r m1 => gh_F m1 ∧ Q r m1) := by
  refine gh_enter2 (L := [(0, 2, 20)]) (by decide +kernel) gh_rt9 (Nat.le_of_ble_eq_true rfl) rfl rfl ?_
  unfold w_Facts_findUsefulRules at h
  refine gh_aload_n gd_Facts_findUsefulRules_0 0 rfl (by decide) ?_
  refine gh_iconst gd_Facts_findUsefulRules_1 (gh_r0 rfl) ?_
  refine pf_20_5 gd_Facts_findUsefulRules_2 gh_k250 hF (fun hF => ?_)
  refine gh_iconst gd_Facts_findUsefulRules_5 (gh_r0 rfl) ?_
  refine gh_istore_n (L2 := [(1, 0, 0), (0, 2, 20)]) gd_Facts_findUsefulRules_6 (by decide) rfl ?_
  refine gh_pick (L2 := [(0, 2, 20), (1, 0, 0)]) [1, 0] rfl ?_
  exact gh_M1_sound (T := fun v1 m => gh_T E (gh_yFacts_findUsefulRules.cls, prog_4_method_8_code, 2, false, 9) (d + 3) 7 [(0, 2, 20), (1, 0, v1)] [] m (fun r m1 => gh_F m1 ∧ Q r m1)) (fun _ m => gh_F m) (fun K7 v1 m hK hF h => b_Facts_findUsefulRules_7 d hK v1 m hF h) 0 (gh_u m 20 5 0) hF h
def f_Facts_namesIn_4 (v1 : Int) (Q : Int → Prop) (m : gh_M) (K4 : Int → Int → Prop) (v2 : Int) (v3 : Int) : Prop := 0 ≤ v1 ∧ v1 < 20 ∧ ((v3 < (m 17 v1) → k_Grammar_nameAt v1 v3 m ∧ ∀ v4 : Int, v4 = x_Grammar_nameAt v1 v3 m → ∀ v2' : Int, v2' = gh_ior_f v2 (if v4 = (-1) then 0 else (gh_ishl_f 1 v4)) → gh_i (v3 + 1) ∧ K4 v2' (v3 + 1)) ∧ (¬ (v3 < (m 17 v1)) → Q v2))
def w_Facts_namesIn (v1 : Int) (m : gh_M) (Q : Int → Prop) : Prop := gh_L2 (fun K4 v2 v3 => f_Facts_namesIn_4 v1 Q m K4 v2 v3) 0 0
theorem b_Facts_namesIn_4 {E : gh_E} {v1 : Int} {Q : Int → Prop} {K4 : Int → Int → Prop} (d : Nat) {m : gh_M} (hK : ∀ (v2 : Int) (v3 : Int), gh_F m → K4 v2 v3 → gh_T E (gh_yFacts_namesIn.cls, prog_4_method_10_code, 5, false, 0) (d + 2) 4 [(0, 2, 20), (1, 0, v1), (2, 0, v2), (3, 0, v3)] [] m (fun r m1 => m1 = m ∧ Q r)) (v2 : Int) (v3 : Int) (hF : gh_F m) (h : f_Facts_namesIn_4 v1 Q m K4 v2 v3) : gh_T E (gh_yFacts_namesIn.cls, prog_4_method_10_code, 5, false, 0) (d + 2) 4 [(0, 2, 20), (1, 0, v1), (2, 0, v2), (3, 0, v3)] [] m (fun r m1 => m1 = m ∧ Q r) := by
  have hK4 := hK
  unfold f_Facts_namesIn_4 at h
  refine gh_iload_n gd_Facts_namesIn_4 3 rfl ?_
  refine gh_aload_n gd_Facts_namesIn_5 0 rfl (by decide) ?_
  refine gf_20_0 gd_Facts_namesIn_6 gh_k239 hF ?_
  refine gf_13_6 gd_Facts_namesIn_9 gh_k205 hF ?_
  refine gh_iload_n gd_Facts_namesIn_12 1 rfl ?_
  obtain ⟨q578, h⟩ := h
  obtain ⟨q579, h⟩ := h
  refine la_17 gd_Facts_namesIn_13 hF q578 q579 rfl ?_
  obtain ⟨hA, hB⟩ := h
  refine gh_jge (tgt := 51) gd_Facts_namesIn_14 (by decide) (fun c580 => ?_) (fun c580 => ?_)
  · have h := hA c580
    refine gh_aload_n gd_Facts_namesIn_17 0 rfl (by decide) ?_
    refine gf_20_0 gd_Facts_namesIn_18 gh_k239 hF ?_
    refine gh_iload_n gd_Facts_namesIn_21 1 rfl ?_
    refine gh_iload_n gd_Facts_namesIn_22 3 rfl ?_
    obtain ⟨q581, h⟩ := h
    refine cv_Grammar_nameAt (d := d + 1) gd_Facts_namesIn_23 gh_k753 hF (Nat.le_of_ble_eq_true rfl) (gh_C.pe (e_Grammar_nameAt d v1 v3 hF q581) ?_)
    refine gh_name (fun v4 hn => ?_)
    have h := h v4 hn
    refine gh_istore (L2 := [(4, 0, v4), (0, 2, 20), (1, 0, v1), (2, 0, v2), (3, 0, v3)]) gd_Facts_namesIn_26 (by decide) rfl ?_
    refine gh_iload_n gd_Facts_namesIn_28 3 rfl ?_
    refine gh_iload gd_Facts_namesIn_29 0 rfl ?_
    refine gh_iconst gd_Facts_namesIn_31 (gh_r0 rfl) ?_
    have k582 : ∀ x583 : Int, x583 = (if v4 = (-1) then 0 else (gh_ishl_f 1 v4)) → gh_T E (gh_yFacts_namesIn.cls, prog_4_method_10_code, 5, false, 0) (d + 2) 43 [(4, 0, v4), (0, 2, 20), (1, 0, v1), (2, 0, v2), (3, 0, v3)] [(0, x583), (0, v2)] m (fun r m1 => m1 = m ∧ Q r) := by
      rintro _ rfl
      refine gh_ior gd_Facts_namesIn_43 ?_
      refine gh_name (fun v2' hn => ?_)
      have h := h v2' hn
      refine gh_istore_n (L2 := [(2, 0, v2'), (4, 0, v4), (0, 2, 20), (1, 0, v1), (3, 0, v3)]) gd_Facts_namesIn_44 (by decide) rfl ?_
      obtain ⟨q584, h⟩ := h
      refine gh_iinc (L2 := [(3, 0, v3 + 1), (2, 0, v2'), (4, 0, v4), (0, 2, 20), (1, 0, v1)]) gd_Facts_namesIn_45 4 rfl q584 (by decide) rfl ?_
      refine gh_goto (tgt := 4) gd_Facts_namesIn_48 (by decide) ?_
      refine gh_pick (L2 := [(0, 2, 20), (1, 0, v1), (2, 0, v2'), (3, 0, v3 + 1)]) [3, 4, 1, 0] rfl ?_
      exact hK4 v2' (v3 + 1) hF h
    refine gh_jne (tgt := 39) gd_Facts_namesIn_32 (by decide) (fun c585 => ?_) (fun c585 => ?_)
    · have hz : True := trivial
      refine gh_iconst gd_Facts_namesIn_35 (gh_r0 rfl) ?_
      refine gh_goto (tgt := 43) gd_Facts_namesIn_36 (by decide) ?_
      exact k582 _ (by rw [if_pos c585])
    · have hz : True := trivial
      refine gh_iconst gd_Facts_namesIn_39 (gh_r0 rfl) ?_
      refine gh_iload gd_Facts_namesIn_40 0 rfl ?_
      refine gh_ishl gd_Facts_namesIn_42 ?_
      exact k582 _ (by rw [if_neg c585])
  · have h := hB c580
    refine gh_iload_n gd_Facts_namesIn_51 2 rfl ?_
    exact gh_ret0 rfl gd_Facts_namesIn_52 ⟨rfl, h⟩
theorem s_Facts_namesIn {E : gh_E} {m : gh_M} {Q : Int → Prop} (d : Nat) (v1 : Int) (hF : gh_F m) (h : w_Facts_namesIn v1 m Q) : gh_C E gh_yFacts_namesIn prog_4_method_10_code 5 (some .int) 0 (d + 2) [(2, 20), (0, v1)] m (fun r m1 => m1 = m ∧ Q r) := by
  refine gh_enter2 (L := [(0, 2, 20), (1, 0, v1)]) (by decide +kernel) gh_rt0 (Nat.le_of_ble_eq_true rfl) rfl rfl ?_
  unfold w_Facts_namesIn at h
  refine gh_iconst gd_Facts_namesIn_0 (gh_r0 rfl) ?_
  refine gh_istore_n (L2 := [(2, 0, 0), (0, 2, 20), (1, 0, v1)]) gd_Facts_namesIn_1 (by decide) rfl ?_
  refine gh_iconst gd_Facts_namesIn_2 (gh_r0 rfl) ?_
  refine gh_istore_n (L2 := [(3, 0, 0), (2, 0, 0), (0, 2, 20), (1, 0, v1)]) gd_Facts_namesIn_3 (by decide) rfl ?_
  refine gh_pick (L2 := [(0, 2, 20), (1, 0, v1), (2, 0, 0), (3, 0, 0)]) [2, 3, 1, 0] rfl ?_
  exact gh_L2_sound (T := fun v2 v3 => gh_T E (gh_yFacts_namesIn.cls, prog_4_method_10_code, 5, false, 0) (d + 2) 4 [(0, 2, 20), (1, 0, v1), (2, 0, v2), (3, 0, v3)] [] m (fun r m1 => m1 = m ∧ Q r)) (fun _ _ => gh_F m) (fun K4 v2 v3 hK hF h => b_Facts_namesIn_4 d hK v2 v3 hF h) 0 0 hF h
def f_Facts_spread_18 (v1 : Int) (v3 : Int) (K4 : Int → Int → Prop) (m : gh_M) (K18 : Int → Int → Prop) (v2 : Int) (v4 : Int) : Prop := ((v4 < (m 13 2) → ∃ J65 : Int → Prop, (∀ (v2' : Int), J65 v2' → gh_i (v4 + 1) ∧ K18 v2' (v4 + 1)) ∧ ((¬ ((gh_iand_f (gh_ishr_f v1 v4) 1) = 0) → (0 ≤ v4 ∧ v4 < 20))) ∧ (((((gh_iand_f (gh_ishr_f v1 v4) 1) = 0) ∨ ((gh_iand_f (gh_ishr_f v2 (m 16 v4)) 1) = 0)) → J65 v2) ∧ (¬ (((gh_iand_f (gh_ishr_f v1 v4) 1) = 0) ∨ ((gh_iand_f (gh_ishr_f v2 (m 16 v4)) 1) = 0)) → w_Facts_namesIn v4 m (fun r593 => ∀ v2' : Int, v2' = gh_ior_f v2 r593 → J65 v2')))) ∧ (¬ (v4 < (m 13 2)) → gh_i (v3 + 1) ∧ K4 v2 (v3 + 1)))
def f_Facts_spread_4 (v1 : Int) (Q : Int → Prop) (m : gh_M) (K4 : Int → Int → Prop) (v2 : Int) (v3 : Int) : Prop := ((v3 < (m 13 1) → gh_L2 (fun K18 v2 v4 => f_Facts_spread_18 v1 v3 K4 m K18 v2 v4) v2 0) ∧ (¬ (v3 < (m 13 1)) → Q v2))
def w_Facts_spread (v1 : Int) (m : gh_M) (Q : Int → Prop) : Prop := gh_L2 (fun K4 v2 v3 => f_Facts_spread_4 v1 Q m K4 v2 v3) 1 0
theorem b_Facts_spread_18 {E : gh_E} {v1 : Int} {v3 : Int} {K4 : Int → Int → Prop} {Q : Int → Prop} {K18 : Int → Int → Prop} (d : Nat) {m : gh_M} (hK4 : ∀ (v2 : Int) (v3 : Int), gh_F m → K4 v2 v3 → gh_T E (gh_yFacts_spread.cls, prog_4_method_9_code, 5, false, 0) (d + 3) 4 [(0, 2, 20), (1, 0, v1), (2, 0, v2), (3, 0, v3)] [] m (fun r m1 => m1 = m ∧ Q r)) (hK : ∀ (v2 : Int) (v4 : Int), gh_F m → K18 v2 v4 → gh_T E (gh_yFacts_spread.cls, prog_4_method_9_code, 5, false, 0) (d + 3) 18 [(0, 2, 20), (1, 0, v1), (2, 0, v2), (3, 0, v3), (4, 0, v4)] [] m (fun r m1 => m1 = m ∧ Q r)) (v2 : Int) (v4 : Int) (hF : gh_F m) (h : f_Facts_spread_18 v1 v3 K4 m K18 v2 v4) : gh_T E (gh_yFacts_spread.cls, prog_4_method_9_code, 5, false, 0) (d + 3) 18 [(0, 2, 20), (1, 0, v1), (2, 0, v2), (3, 0, v3), (4, 0, v4)] [] m (fun r m1 => m1 = m ∧ Q r) := by
  have hK18 := hK
  unfold f_Facts_spread_18 at h
  refine gh_iload gd_Facts_spread_18 4 rfl ?_
  refine gh_aload_n gd_Facts_spread_20 0 rfl (by decide) ?_
  refine gf_20_0 gd_Facts_spread_21 gh_k239 hF ?_
  refine gf_13_2 gd_Facts_spread_24 gh_k187 hF rfl ?_
  obtain ⟨hA, hB⟩ := h
  refine gh_jge (tgt := 71) gd_Facts_spread_27 (by decide) (fun c587 => ?_) (fun c587 => ?_)
  · have h := hA c587
    refine gh_iload_n gd_Facts_spread_30 1 rfl ?_
    refine gh_iload gd_Facts_spread_31 4 rfl ?_
    refine gh_ishr gd_Facts_spread_33 ?_
    refine gh_iconst gd_Facts_spread_34 (gh_r0 rfl) ?_
    refine gh_iand gd_Facts_spread_35 ?_
    obtain ⟨J65, hJ65, h⟩ := h
    have hJ65 : ∀ (v2' : Int), gh_F m → J65 v2' → gh_T E (gh_yFacts_spread.cls, prog_4_method_9_code, 5, false, 0) (d + 3) 65 [(0, 2, 20), (1, 0, v1), (2, 0, v2'), (3, 0, v3), (4, 0, v4)] [] m (fun r m1 => m1 = m ∧ Q r) := by
      intro v2' hF hj
      have h := hJ65 v2' hj
      obtain ⟨q588, h⟩ := h
      refine gh_iinc (L2 := [(4, 0, v4 + 1), (0, 2, 20), (1, 0, v1), (2, 0, v2'), (3, 0, v3)]) gd_Facts_spread_65 4 rfl q588 (by decide) rfl ?_
      refine gh_goto (tgt := 18) gd_Facts_spread_68 (by decide) ?_
      refine gh_pick (L2 := [(0, 2, 20), (1, 0, v1), (2, 0, v2'), (3, 0, v3), (4, 0, v4 + 1)]) [1, 2, 3, 4, 0] rfl ?_
      exact hK18 v2' (v4 + 1) hF h
    obtain ⟨hk, hA, hB⟩ := h
    have k591 : (((gh_iand_f (gh_ishr_f v1 v4) 1) = 0) ∨ ((gh_iand_f (gh_ishr_f v2 (m 16 v4)) 1) = 0)) → gh_T E (gh_yFacts_spread.cls, prog_4_method_9_code, 5, false, 0) (d + 3) 65 [(0, 2, 20), (1, 0, v1), (2, 0, v2), (3, 0, v3), (4, 0, v4)] [] m (fun r m1 => m1 = m ∧ Q r) := by
      intro c
      have h := hA c
      exact hJ65 v2 hF h
    have k592 : ¬ (((gh_iand_f (gh_ishr_f v1 v4) 1) = 0) ∨ ((gh_iand_f (gh_ishr_f v2 (m 16 v4)) 1) = 0)) → gh_T E (gh_yFacts_spread.cls, prog_4_method_9_code, 5, false, 0) (d + 3) 56 [(0, 2, 20), (1, 0, v1), (2, 0, v2), (3, 0, v3), (4, 0, v4)] [] m (fun r m1 => m1 = m ∧ Q r) := by
      intro c
      have h := hB c
      refine gh_iload_n gd_Facts_spread_56 2 rfl ?_
      refine gh_aload_n gd_Facts_spread_57 0 rfl (by decide) ?_
      refine gh_iload gd_Facts_spread_58 4 rfl ?_
      refine cv_Facts_namesIn (d := d + 2) gd_Facts_spread_60 gh_k787 hF (Nat.le_of_ble_eq_true rfl) (gh_C.pw (s_Facts_namesIn d v4 hF h) (fun r593 h => ?_))
      refine gh_ior gd_Facts_spread_63 ?_
      refine gh_name (fun v2' hn => ?_)
      have h := h v2' hn
      refine gh_istore_n (L2 := [(2, 0, v2'), (0, 2, 20), (1, 0, v1), (3, 0, v3), (4, 0, v4)]) gd_Facts_spread_64 (by decide) rfl ?_
      refine gh_pick (L2 := [(0, 2, 20), (1, 0, v1), (2, 0, v2'), (3, 0, v3), (4, 0, v4)]) [1, 2, 0, 3, 4] rfl ?_
      exact hJ65 v2' hF h
    refine gh_zeq (tgt := 65) gd_Facts_spread_36 (by decide) (fun c595 => ?_) (fun c595 => ?_)
    · have hz : True := trivial
      exact k591 (Or.inl c595)
    · have hz : True := trivial
      have hk := hk c595
      refine gh_iload_n gd_Facts_spread_39 2 rfl ?_
      refine gh_aload_n gd_Facts_spread_40 0 rfl (by decide) ?_
      refine gf_20_0 gd_Facts_spread_41 gh_k239 hF ?_
      refine gf_13_5 gd_Facts_spread_44 gh_k200 hF ?_
      refine gh_iload gd_Facts_spread_47 4 rfl ?_
      obtain ⟨q589, hk⟩ := hk
      have q590 := hk
      refine la_16 gd_Facts_spread_49 hF q589 q590 rfl ?_
      refine gh_ishr gd_Facts_spread_50 ?_
      refine gh_iconst gd_Facts_spread_51 (gh_r0 rfl) ?_
      refine gh_iand gd_Facts_spread_52 ?_
      refine gh_zeq (tgt := 65) gd_Facts_spread_53 (by decide) (fun c596 => ?_) (fun c596 => ?_)
      · have hz : True := trivial
        exact k591 (Or.inr c596)
      · have hz : True := trivial
        exact k592 (fun z => z.elim c595 c596)
  · have h := hB c587
    obtain ⟨q597, h⟩ := h
    refine gh_iinc (L2 := [(3, 0, v3 + 1), (0, 2, 20), (1, 0, v1), (2, 0, v2), (4, 0, v4)]) gd_Facts_spread_71 3 rfl q597 (by decide) rfl ?_
    refine gh_goto (tgt := 4) gd_Facts_spread_74 (by decide) ?_
    refine gh_pick (L2 := [(0, 2, 20), (1, 0, v1), (2, 0, v2), (3, 0, v3 + 1)]) [1, 2, 3, 0] rfl ?_
    exact hK4 v2 (v3 + 1) hF h
theorem b_Facts_spread_4 {E : gh_E} {v1 : Int} {Q : Int → Prop} {K4 : Int → Int → Prop} (d : Nat) {m : gh_M} (hK : ∀ (v2 : Int) (v3 : Int), gh_F m → K4 v2 v3 → gh_T E (gh_yFacts_spread.cls, prog_4_method_9_code, 5, false, 0) (d + 3) 4 [(0, 2, 20), (1, 0, v1), (2, 0, v2), (3, 0, v3)] [] m (fun r m1 => m1 = m ∧ Q r)) (v2 : Int) (v3 : Int) (hF : gh_F m) (h : f_Facts_spread_4 v1 Q m K4 v2 v3) : gh_T E (gh_yFacts_spread.cls, prog_4_method_9_code, 5, false, 0) (d + 3) 4 [(0, 2, 20), (1, 0, v1), (2, 0, v2), (3, 0, v3)] [] m (fun r m1 => m1 = m ∧ Q r) := by
  have hK4 := hK
  unfold f_Facts_spread_4 at h
  refine gh_iload_n gd_Facts_spread_4 3 rfl ?_
  refine gh_aload_n gd_Facts_spread_5 0 rfl (by decide) ?_
  refine gf_20_0 gd_Facts_spread_6 gh_k239 hF ?_
  refine gf_13_1 gd_Facts_spread_9 gh_k182 hF rfl ?_
  obtain ⟨hA, hB⟩ := h
  refine gh_jge (tgt := 77) gd_Facts_spread_12 (by decide) (fun c586 => ?_) (fun c586 => ?_)
  · have h := hA c586
    refine gh_iconst gd_Facts_spread_15 (gh_r0 rfl) ?_
    refine gh_istore (L2 := [(4, 0, 0), (0, 2, 20), (1, 0, v1), (2, 0, v2), (3, 0, v3)]) gd_Facts_spread_16 (by decide) rfl ?_
    refine gh_pick (L2 := [(0, 2, 20), (1, 0, v1), (2, 0, v2), (3, 0, v3), (4, 0, 0)]) [1, 2, 3, 4, 0] rfl ?_
    exact gh_L2_sound (T := fun v2 v4 => gh_T E (gh_yFacts_spread.cls, prog_4_method_9_code, 5, false, 0) (d + 3) 18 [(0, 2, 20), (1, 0, v1), (2, 0, v2), (3, 0, v3), (4, 0, v4)] [] m (fun r m1 => m1 = m ∧ Q r)) (fun _ _ => gh_F m) (fun K18 v2 v4 hK hF h => b_Facts_spread_18 d hK4 hK v2 v4 hF h) v2 0 hF h
  · have h := hB c586
    refine gh_iload_n gd_Facts_spread_77 2 rfl ?_
    exact gh_ret0 rfl gd_Facts_spread_78 ⟨rfl, h⟩
theorem s_Facts_spread {E : gh_E} {m : gh_M} {Q : Int → Prop} (d : Nat) (v1 : Int) (hF : gh_F m) (h : w_Facts_spread v1 m Q) : gh_C E gh_yFacts_spread prog_4_method_9_code 5 (some .int) 0 (d + 3) [(2, 20), (0, v1)] m (fun r m1 => m1 = m ∧ Q r) := by
  refine gh_enter2 (L := [(0, 2, 20), (1, 0, v1)]) (by decide +kernel) gh_rt0 (Nat.le_of_ble_eq_true rfl) rfl rfl ?_
  unfold w_Facts_spread at h
  refine gh_iconst gd_Facts_spread_0 (gh_r0 rfl) ?_
  refine gh_istore_n (L2 := [(2, 0, 1), (0, 2, 20), (1, 0, v1)]) gd_Facts_spread_1 (by decide) rfl ?_
  refine gh_iconst gd_Facts_spread_2 (gh_r0 rfl) ?_
  refine gh_istore_n (L2 := [(3, 0, 0), (2, 0, 1), (0, 2, 20), (1, 0, v1)]) gd_Facts_spread_3 (by decide) rfl ?_
  refine gh_pick (L2 := [(0, 2, 20), (1, 0, v1), (2, 0, 1), (3, 0, 0)]) [2, 3, 1, 0] rfl ?_
  exact gh_L2_sound (T := fun v2 v3 => gh_T E (gh_yFacts_spread.cls, prog_4_method_9_code, 5, false, 0) (d + 3) 4 [(0, 2, 20), (1, 0, v1), (2, 0, v2), (3, 0, v3)] [] m (fun r m1 => m1 = m ∧ Q r)) (fun _ _ => gh_F m) (fun K4 v2 v3 hK hF h => b_Facts_spread_4 d hK v2 v3 hF h) 1 0 hF h
def f_Facts_closeOver_24_9 (v1 : Int) (v2 : Int) (K2 : Int → gh_M → Prop) (K9 : Int → gh_M → Prop) (v3 : Int) (m : gh_M) : Prop := ((v3 < v1 → 0 ≤ v3 ∧ v3 < 8 ∧ ∃ J33 : gh_M → Prop, (∀ (m : gh_M), J33 m → gh_i (v3 + 1) ∧ K9 (v3 + 1) m) ∧ (((gh_iand_f (gh_ishr_f (m 24 v3) v2) 1) = 0 → J33 m) ∧ (¬ ((gh_iand_f (gh_ishr_f (m 24 v3) v2) 1) = 0) → 0 ≤ v3 ∧ v3 < 8 ∧ 0 ≤ v2 ∧ v2 < 8 ∧ 0 ≤ v3 ∧ v3 < 8 ∧ J33 (gh_u m 24 v3 (gh_ior_f (m 24 v3) (m 24 v2)))))) ∧ (¬ (v3 < v1) → gh_i (v2 + 1) ∧ K2 (v2 + 1) m))
def f_Facts_closeOver_24_2 (v1 : Int) (Q : Int → gh_M → Prop) (K2 : Int → gh_M → Prop) (v2 : Int) (m : gh_M) : Prop := ((v2 < v1 → gh_M1 (fun K9 v3 m => f_Facts_closeOver_24_9 v1 v2 K2 K9 v3 m) 0 m) ∧ (¬ (v2 < v1) → Q 0 m))
def w_Facts_closeOver_24 (v1 : Int) (m : gh_M) (Q : Int → gh_M → Prop) : Prop := gh_M1 (fun K2 v2 m => f_Facts_closeOver_24_2 v1 Q K2 v2 m) 0 m
theorem b_Facts_closeOver_24_9 {E : gh_E} {v1 : Int} {v2 : Int} {K2 : Int → gh_M → Prop} {Q : Int → gh_M → Prop} {K9 : Int → gh_M → Prop} (d : Nat) (hK2 : ∀ (v2 : Int) (m : gh_M), gh_F m → K2 v2 m → gh_T E (gh_yFacts_closeOver.cls, prog_4_method_12_code, 4, false, 9) (d + 0) 2 [(0, 2, 24), (1, 0, v1), (2, 0, v2)] [] m (fun r m1 => gh_F m1 ∧ Q r m1)) (hK : ∀ (v3 : Int) (m : gh_M), gh_F m → K9 v3 m → gh_T E (gh_yFacts_closeOver.cls, prog_4_method_12_code, 4, false, 9) (d + 0) 9 [(0, 2, 24), (1, 0, v1), (2, 0, v2), (3, 0, v3)] [] m (fun r m1 => gh_F m1 ∧ Q r m1)) (v3 : Int) (m : gh_M) (hF : gh_F m) (h : f_Facts_closeOver_24_9 v1 v2 K2 K9 v3 m) : gh_T E (gh_yFacts_closeOver.cls, prog_4_method_12_code, 4, false, 9) (d + 0) 9 [(0, 2, 24), (1, 0, v1), (2, 0, v2), (3, 0, v3)] [] m (fun r m1 => gh_F m1 ∧ Q r m1) := by
  have hK9 := hK
  unfold f_Facts_closeOver_24_9 at h
  refine gh_iload_n gd_Facts_closeOver_9 3 rfl ?_
  refine gh_iload_n gd_Facts_closeOver_10 1 rfl ?_
  obtain ⟨hA, hB⟩ := h
  refine gh_jge (tgt := 39) gd_Facts_closeOver_11 (by decide) (fun c618 => ?_) (fun c618 => ?_)
  · have h := hA c618
    refine gh_aload_n gd_Facts_closeOver_14 0 rfl (by decide) ?_
    refine gh_iload_n gd_Facts_closeOver_15 3 rfl ?_
    obtain ⟨q619, h⟩ := h
    obtain ⟨q620, h⟩ := h
    refine la_24 gd_Facts_closeOver_16 hF q619 q620 rfl ?_
    refine gh_iload_n gd_Facts_closeOver_17 2 rfl ?_
    refine gh_ishr gd_Facts_closeOver_18 ?_
    refine gh_iconst gd_Facts_closeOver_19 (gh_r0 rfl) ?_
    refine gh_iand gd_Facts_closeOver_20 ?_
    obtain ⟨J33, hJ33, h⟩ := h
    have hJ33 : ∀ (m : gh_M), gh_F m → J33 m → gh_T E (gh_yFacts_closeOver.cls, prog_4_method_12_code, 4, false, 9) (d + 0) 33 [(0, 2, 24), (1, 0, v1), (2, 0, v2), (3, 0, v3)] [] m (fun r m1 => gh_F m1 ∧ Q r m1) := by
      intro m hF hj
      have h := hJ33 m hj
      obtain ⟨q621, h⟩ := h
      refine gh_iinc (L2 := [(3, 0, v3 + 1), (0, 2, 24), (1, 0, v1), (2, 0, v2)]) gd_Facts_closeOver_33 3 rfl q621 (by decide) rfl ?_
      refine gh_goto (tgt := 9) gd_Facts_closeOver_36 (by decide) ?_
      refine gh_pick (L2 := [(0, 2, 24), (1, 0, v1), (2, 0, v2), (3, 0, v3 + 1)]) [1, 2, 3, 0] rfl ?_
      exact hK9 (v3 + 1) m hF h
    obtain ⟨hA, hB⟩ := h
    refine gh_zeq (tgt := 33) gd_Facts_closeOver_21 (by decide) (fun c622 => ?_) (fun c622 => ?_)
    · have h := hA c622
      exact hJ33 m hF h
    · have h := hB c622
      refine gh_aload_n gd_Facts_closeOver_24 0 rfl (by decide) ?_
      refine gh_iload_n gd_Facts_closeOver_25 3 rfl ?_
      refine gh_dup2 gd_Facts_closeOver_26 (by decide) (by decide) ?_
      obtain ⟨q623, h⟩ := h
      obtain ⟨q624, h⟩ := h
      refine la_24 gd_Facts_closeOver_27 hF q623 q624 rfl ?_
      refine gh_aload_n gd_Facts_closeOver_28 0 rfl (by decide) ?_
      refine gh_iload_n gd_Facts_closeOver_29 2 rfl ?_
      obtain ⟨q625, h⟩ := h
      obtain ⟨q626, h⟩ := h
      refine la_24 gd_Facts_closeOver_30 hF q625 q626 rfl ?_
      refine gh_ior gd_Facts_closeOver_31 ?_
      obtain ⟨q627, h⟩ := h
      obtain ⟨q628, h⟩ := h
      refine sa_24 gd_Facts_closeOver_32 hF q627 q628 (fun hF => ?_)
      exact hJ33 (gh_u m 24 v3 (gh_ior_f (m 24 v3) (m 24 v2))) hF h
  · have h := hB c618
    obtain ⟨q629, h⟩ := h
    refine gh_iinc (L2 := [(2, 0, v2 + 1), (0, 2, 24), (1, 0, v1), (3, 0, v3)]) gd_Facts_closeOver_39 2 rfl q629 (by decide) rfl ?_
    refine gh_goto (tgt := 2) gd_Facts_closeOver_42 (by decide) ?_
    refine gh_pick (L2 := [(0, 2, 24), (1, 0, v1), (2, 0, v2 + 1)]) [1, 2, 0] rfl ?_
    exact hK2 (v2 + 1) m hF h
theorem b_Facts_closeOver_24_2 {E : gh_E} {v1 : Int} {Q : Int → gh_M → Prop} {K2 : Int → gh_M → Prop} (d : Nat) (hK : ∀ (v2 : Int) (m : gh_M), gh_F m → K2 v2 m → gh_T E (gh_yFacts_closeOver.cls, prog_4_method_12_code, 4, false, 9) (d + 0) 2 [(0, 2, 24), (1, 0, v1), (2, 0, v2)] [] m (fun r m1 => gh_F m1 ∧ Q r m1)) (v2 : Int) (m : gh_M) (hF : gh_F m) (h : f_Facts_closeOver_24_2 v1 Q K2 v2 m) : gh_T E (gh_yFacts_closeOver.cls, prog_4_method_12_code, 4, false, 9) (d + 0) 2 [(0, 2, 24), (1, 0, v1), (2, 0, v2)] [] m (fun r m1 => gh_F m1 ∧ Q r m1) := by
  have hK2 := hK
  unfold f_Facts_closeOver_24_2 at h
  refine gh_iload_n gd_Facts_closeOver_2 2 rfl ?_
  refine gh_iload_n gd_Facts_closeOver_3 1 rfl ?_
  obtain ⟨hA, hB⟩ := h
  refine gh_jge (tgt := 45) gd_Facts_closeOver_4 (by decide) (fun c617 => ?_) (fun c617 => ?_)
  · have h := hA c617
    refine gh_iconst gd_Facts_closeOver_7 (gh_r0 rfl) ?_
    refine gh_istore_n (L2 := [(3, 0, 0), (0, 2, 24), (1, 0, v1), (2, 0, v2)]) gd_Facts_closeOver_8 (by decide) rfl ?_
    refine gh_pick (L2 := [(0, 2, 24), (1, 0, v1), (2, 0, v2), (3, 0, 0)]) [1, 2, 3, 0] rfl ?_
    exact gh_M1_sound (T := fun v3 m => gh_T E (gh_yFacts_closeOver.cls, prog_4_method_12_code, 4, false, 9) (d + 0) 9 [(0, 2, 24), (1, 0, v1), (2, 0, v2), (3, 0, v3)] [] m (fun r m1 => gh_F m1 ∧ Q r m1)) (fun _ m => gh_F m) (fun K9 v3 m hK hF h => b_Facts_closeOver_24_9 d hK2 hK v3 m hF h) 0 m hF h
  · have h := hB c617
    exact gh_ret9 rfl gd_Facts_closeOver_45 ⟨hF, h⟩
theorem s_Facts_closeOver_24 {E : gh_E} {m : gh_M} {Q : Int → gh_M → Prop} (d : Nat) (v1 : Int) (hF : gh_F m) (h : w_Facts_closeOver_24 v1 m Q) : gh_C E gh_yFacts_closeOver prog_4_method_12_code 4 none 9 (d + 0) [(2, 24), (0, v1)] m (fun r m1 => gh_F m1 ∧ Q r m1) := by
  refine gh_enter2 (L := [(0, 2, 24), (1, 0, v1)]) (by decide +kernel) gh_rt9 (Nat.le_of_ble_eq_true rfl) rfl rfl ?_
  unfold w_Facts_closeOver_24 at h
  refine gh_iconst gd_Facts_closeOver_0 (gh_r0 rfl) ?_
  refine gh_istore_n (L2 := [(2, 0, 0), (0, 2, 24), (1, 0, v1)]) gd_Facts_closeOver_1 (by decide) rfl ?_
  refine gh_pick (L2 := [(0, 2, 24), (1, 0, v1), (2, 0, 0)]) [1, 2, 0] rfl ?_
  exact gh_M1_sound (T := fun v2 m => gh_T E (gh_yFacts_closeOver.cls, prog_4_method_12_code, 4, false, 9) (d + 0) 2 [(0, 2, 24), (1, 0, v1), (2, 0, v2)] [] m (fun r m1 => gh_F m1 ∧ Q r m1)) (fun _ m => gh_F m) (fun K2 v2 m hK hF h => b_Facts_closeOver_24_2 d hK v2 m hF h) 0 m hF h
def f_Facts_findOver_23 (v1 : Int) (K10 : Int → gh_M → Prop) (K23 : Int → gh_M → Prop) (v2 : Int) (m : gh_M) : Prop := 0 ≤ v1 ∧ v1 < 20 ∧ ((v2 < (m 17 v1) → k_Grammar_nameAt v1 v2 m ∧ ∀ v3 : Int, v3 = x_Grammar_nameAt v1 v2 m → ∃ J81 : gh_M → Prop, (∀ (m : gh_M), J81 m → gh_i (v2 + 1) ∧ K23 (v2 + 1) m) ∧ ((v3 = (-1) → J81 m) ∧ (¬ (v3 = (-1)) → w_Facts_isEmptyRow v1 0 v2 m (fun r605 => ((r605 = 0 → J81 m) ∧ (¬ (r605 = 0) → 0 ≤ v1 ∧ v1 < 20 ∧ 0 ≤ m 16 v1 ∧ (m 16 v1) < 8 ∧ 0 ≤ m 16 v1 ∧ (m 16 v1) < 8 ∧ J81 (gh_u m 24 (m 16 v1) (gh_ior_f (m 24 (m 16 v1)) (gh_ishl_f 1 v3))))))))) ∧ (¬ (v2 < (m 17 v1)) → gh_i (v1 + 1) ∧ K10 (v1 + 1) m))
def f_Facts_findOver_10 (Q : Int → gh_M → Prop) (K10 : Int → gh_M → Prop) (v1 : Int) (m : gh_M) : Prop := ((v1 < (m 13 2) → gh_M1 (fun K23 v2 m => f_Facts_findOver_23 v1 K10 K23 v2 m) 0 m) ∧ (¬ (v1 < (m 13 2)) → w_Facts_closeOver_24 (m 13 1) m (fun _ m616 => Q 0 m616)))
def w_Facts_findOver (m : gh_M) (Q : Int → gh_M → Prop) : Prop := gh_M1 (fun K10 v1 m => f_Facts_findOver_10 Q K10 v1 m) 0 (gh_fil m 24 8 0)
theorem b_Facts_findOver_23 {E : gh_E} {v1 : Int} {K10 : Int → gh_M → Prop} {Q : Int → gh_M → Prop} {K23 : Int → gh_M → Prop} (d : Nat) (hK10 : ∀ (v1 : Int) (m : gh_M), gh_F m → K10 v1 m → gh_T E (gh_yFacts_findOver.cls, prog_4_method_11_code, 4, false, 9) (d + 3) 10 [(0, 2, 20), (1, 0, v1)] [] m (fun r m1 => gh_F m1 ∧ Q r m1)) (hK : ∀ (v2 : Int) (m : gh_M), gh_F m → K23 v2 m → gh_T E (gh_yFacts_findOver.cls, prog_4_method_11_code, 4, false, 9) (d + 3) 23 [(0, 2, 20), (1, 0, v1), (2, 0, v2)] [] m (fun r m1 => gh_F m1 ∧ Q r m1)) (v2 : Int) (m : gh_M) (hF : gh_F m) (h : f_Facts_findOver_23 v1 K10 K23 v2 m) : gh_T E (gh_yFacts_findOver.cls, prog_4_method_11_code, 4, false, 9) (d + 3) 23 [(0, 2, 20), (1, 0, v1), (2, 0, v2)] [] m (fun r m1 => gh_F m1 ∧ Q r m1) := by
  have hK23 := hK
  unfold f_Facts_findOver_23 at h
  refine gh_iload_n gd_Facts_findOver_23 2 rfl ?_
  refine gh_aload_n gd_Facts_findOver_24 0 rfl (by decide) ?_
  refine gf_20_0 gd_Facts_findOver_25 gh_k239 hF ?_
  refine gf_13_6 gd_Facts_findOver_28 gh_k205 hF ?_
  refine gh_iload_n gd_Facts_findOver_31 1 rfl ?_
  obtain ⟨q599, h⟩ := h
  obtain ⟨q600, h⟩ := h
  refine la_17 gd_Facts_findOver_32 hF q599 q600 rfl ?_
  obtain ⟨hA, hB⟩ := h
  refine gh_jge (tgt := 87) gd_Facts_findOver_33 (by decide) (fun c601 => ?_) (fun c601 => ?_)
  · have h := hA c601
    refine gh_aload_n gd_Facts_findOver_36 0 rfl (by decide) ?_
    refine gf_20_0 gd_Facts_findOver_37 gh_k239 hF ?_
    refine gh_iload_n gd_Facts_findOver_40 1 rfl ?_
    refine gh_iload_n gd_Facts_findOver_41 2 rfl ?_
    obtain ⟨q602, h⟩ := h
    refine cv_Grammar_nameAt (d := d + 2) gd_Facts_findOver_42 gh_k753 hF (Nat.le_of_ble_eq_true rfl) (gh_C.pe (e_Grammar_nameAt (d + 1) v1 v2 hF q602) ?_)
    refine gh_name (fun v3 hn => ?_)
    have h := h v3 hn
    refine gh_istore_n (L2 := [(3, 0, v3), (0, 2, 20), (1, 0, v1), (2, 0, v2)]) gd_Facts_findOver_45 (by decide) rfl ?_
    refine gh_iload_n gd_Facts_findOver_46 0 rfl ?_
    refine gh_iconst gd_Facts_findOver_47 (gh_r0 rfl) ?_
    obtain ⟨J81, hJ81, h⟩ := h
    have hJ81 : ∀ (m : gh_M), gh_F m → J81 m → gh_T E (gh_yFacts_findOver.cls, prog_4_method_11_code, 4, false, 9) (d + 3) 81 [(0, 2, 20), (1, 0, v1), (2, 0, v2)] [] m (fun r m1 => gh_F m1 ∧ Q r m1) := by
      intro m hF hj
      have h := hJ81 m hj
      obtain ⟨q603, h⟩ := h
      refine gh_iinc (L2 := [(2, 0, v2 + 1), (0, 2, 20), (1, 0, v1)]) gd_Facts_findOver_81 2 rfl q603 (by decide) rfl ?_
      refine gh_goto (tgt := 23) gd_Facts_findOver_84 (by decide) ?_
      refine gh_pick (L2 := [(0, 2, 20), (1, 0, v1), (2, 0, v2 + 1)]) [1, 2, 0] rfl ?_
      exact hK23 (v2 + 1) m hF h
    obtain ⟨hA, hB⟩ := h
    refine gh_jeq (tgt := 81) gd_Facts_findOver_48 (by decide) (fun c604 => ?_) (fun c604 => ?_)
    · have h := hA c604
      refine gh_pick (L2 := [(0, 2, 20), (1, 0, v1), (2, 0, v2)]) [1, 2, 3] rfl ?_
      exact hJ81 m hF h
    · have h := hB c604
      refine gh_aload_n gd_Facts_findOver_51 1 rfl (by decide) ?_
      refine gh_iload_n gd_Facts_findOver_52 2 rfl ?_
      refine gh_iconst gd_Facts_findOver_53 (gh_r0 rfl) ?_
      refine gh_iload_n gd_Facts_findOver_54 3 rfl ?_
      refine cv_Facts_isEmptyRow (d := d + 2) gd_Facts_findOver_55 gh_k749 hF (Nat.le_of_ble_eq_true rfl) (gh_C.pw (s_Facts_isEmptyRow d v1 0 v2 hF h) (fun r605 h => ?_))
      obtain ⟨hA, hB⟩ := h
      refine gh_zeq (tgt := 81) gd_Facts_findOver_58 (by decide) (fun c607 => ?_) (fun c607 => ?_)
      · have h := hA c607
        refine gh_pick (L2 := [(0, 2, 20), (1, 0, v1), (2, 0, v2)]) [1, 2, 3] rfl ?_
        exact hJ81 m hF h
      · have h := hB c607
        refine gh_aload_n gd_Facts_findOver_61 1 rfl (by decide) ?_
        refine gf_20_9 gd_Facts_findOver_62 gh_k257 hF ?_
        refine gh_aload_n gd_Facts_findOver_65 1 rfl (by decide) ?_
        refine gf_20_0 gd_Facts_findOver_66 gh_k239 hF ?_
        refine gf_13_5 gd_Facts_findOver_69 gh_k200 hF ?_
        refine gh_iload_n gd_Facts_findOver_72 2 rfl ?_
        obtain ⟨q608, h⟩ := h
        obtain ⟨q609, h⟩ := h
        refine la_16 gd_Facts_findOver_73 hF q608 q609 rfl ?_
        refine gh_dup2 gd_Facts_findOver_74 (by decide) (by decide) ?_
        obtain ⟨q610, h⟩ := h
        obtain ⟨q611, h⟩ := h
        refine la_24 gd_Facts_findOver_75 hF q610 q611 rfl ?_
        refine gh_iconst gd_Facts_findOver_76 (gh_r0 rfl) ?_
        refine gh_iload_n gd_Facts_findOver_77 0 rfl ?_
        refine gh_ishl gd_Facts_findOver_78 ?_
        refine gh_ior gd_Facts_findOver_79 ?_
        obtain ⟨q612, h⟩ := h
        obtain ⟨q613, h⟩ := h
        refine sa_24 gd_Facts_findOver_80 hF q612 q613 (fun hF => ?_)
        refine gh_pick (L2 := [(0, 2, 20), (1, 0, v1), (2, 0, v2)]) [1, 2, 3] rfl ?_
        exact hJ81 (gh_u m 24 (m 16 v1) (gh_ior_f (m 24 (m 16 v1)) (gh_ishl_f 1 v3))) hF h
  · have h := hB c601
    obtain ⟨q614, h⟩ := h
    refine gh_iinc (L2 := [(1, 0, v1 + 1), (0, 2, 20), (2, 0, v2)]) gd_Facts_findOver_87 1 rfl q614 (by decide) rfl ?_
    refine gh_goto (tgt := 10) gd_Facts_findOver_90 (by decide) ?_
    refine gh_pick (L2 := [(0, 2, 20), (1, 0, v1 + 1)]) [1, 0] rfl ?_
    exact hK10 (v1 + 1) m hF h
theorem b_Facts_findOver_10 {E : gh_E} {Q : Int → gh_M → Prop} {K10 : Int → gh_M → Prop} (d : Nat) (hK : ∀ (v1 : Int) (m : gh_M), gh_F m → K10 v1 m → gh_T E (gh_yFacts_findOver.cls, prog_4_method_11_code, 4, false, 9) (d + 3) 10 [(0, 2, 20), (1, 0, v1)] [] m (fun r m1 => gh_F m1 ∧ Q r m1)) (v1 : Int) (m : gh_M) (hF : gh_F m) (h : f_Facts_findOver_10 Q K10 v1 m) : gh_T E (gh_yFacts_findOver.cls, prog_4_method_11_code, 4, false, 9) (d + 3) 10 [(0, 2, 20), (1, 0, v1)] [] m (fun r m1 => gh_F m1 ∧ Q r m1) := by
  have hK10 := hK
  unfold f_Facts_findOver_10 at h
  refine gh_iload_n gd_Facts_findOver_10 1 rfl ?_
  refine gh_aload_n gd_Facts_findOver_11 0 rfl (by decide) ?_
  refine gf_20_0 gd_Facts_findOver_12 gh_k239 hF ?_
  refine gf_13_2 gd_Facts_findOver_15 gh_k187 hF rfl ?_
  obtain ⟨hA, hB⟩ := h
  refine gh_jge (tgt := 93) gd_Facts_findOver_18 (by decide) (fun c598 => ?_) (fun c598 => ?_)
  · have h := hA c598
    refine gh_iconst gd_Facts_findOver_21 (gh_r0 rfl) ?_
    refine gh_istore_n (L2 := [(2, 0, 0), (0, 2, 20), (1, 0, v1)]) gd_Facts_findOver_22 (by decide) rfl ?_
    refine gh_pick (L2 := [(0, 2, 20), (1, 0, v1), (2, 0, 0)]) [1, 2, 0] rfl ?_
    exact gh_M1_sound (T := fun v2 m => gh_T E (gh_yFacts_findOver.cls, prog_4_method_11_code, 4, false, 9) (d + 3) 23 [(0, 2, 20), (1, 0, v1), (2, 0, v2)] [] m (fun r m1 => gh_F m1 ∧ Q r m1)) (fun _ m => gh_F m) (fun K23 v2 m hK hF h => b_Facts_findOver_23 d hK10 hK v2 m hF h) 0 m hF h
  · have h := hB c598
    refine gh_aload_n gd_Facts_findOver_93 0 rfl (by decide) ?_
    refine gf_20_9 gd_Facts_findOver_94 gh_k257 hF ?_
    refine gh_aload_n gd_Facts_findOver_97 0 rfl (by decide) ?_
    refine gf_20_0 gd_Facts_findOver_98 gh_k239 hF ?_
    refine gf_13_1 gd_Facts_findOver_101 gh_k182 hF rfl ?_
    refine cv_Facts_closeOver (d := d + 2) gd_Facts_findOver_104 gh_k795 (Nat.le_of_ble_eq_true rfl) (gh_C.mono (s_Facts_closeOver_24 (d + 2) (m 13 1) hF h) (fun r615 m616 hq => ?_))
    obtain ⟨hF, h⟩ := hq
    exact gh_ret9 rfl gd_Facts_findOver_107 ⟨hF, h⟩
theorem s_Facts_findOver {E : gh_E} {m : gh_M} {Q : Int → gh_M → Prop} (d : Nat) (hF : gh_F m) (h : w_Facts_findOver m Q) : gh_C E gh_yFacts_findOver prog_4_method_11_code 4 none 9 (d + 3) [(2, 20)] m (fun r m1 => gh_F m1 ∧ Q r m1) := by
  refine gh_enter2 (L := [(0, 2, 20)]) (by decide +kernel) gh_rt9 (Nat.le_of_ble_eq_true rfl) rfl rfl ?_
  unfold w_Facts_findOver at h
  refine gh_aload_n gd_Facts_findOver_0 0 rfl (by decide) ?_
  refine gf_20_9 gd_Facts_findOver_1 gh_k257 hF ?_
  refine gh_iconst gd_Facts_findOver_4 (gh_r0 rfl) ?_
  refine gh_fillF (d := d + 2) gd_Facts_findOver_5 gh_k770 (ga_24 hF) (Nat.le_of_ble_eq_true rfl) hF gn_24 (by decide) (fun hF => ?_)
  refine gh_iconst gd_Facts_findOver_8 (gh_r0 rfl) ?_
  refine gh_istore_n (L2 := [(1, 0, 0), (0, 2, 20)]) gd_Facts_findOver_9 (by decide) rfl ?_
  refine gh_pick (L2 := [(0, 2, 20), (1, 0, 0)]) [1, 0] rfl ?_
  exact gh_M1_sound (T := fun v1 m => gh_T E (gh_yFacts_findOver.cls, prog_4_method_11_code, 4, false, 9) (d + 3) 10 [(0, 2, 20), (1, 0, v1)] [] m (fun r m1 => gh_F m1 ∧ Q r m1)) (fun _ m => gh_F m) (fun K10 v1 m hK hF h => b_Facts_findOver_10 d hK v1 m hF h) 0 (gh_fil m 24 8 0) hF h
def f_Facts_firstOfRow_5 (v1 : Int) (Q : Int → Prop) (m : gh_M) (K5 : Int → Int → Prop) (v3 : Int) (v4 : Int) : Prop := 0 ≤ v1 ∧ v1 < 20 ∧ ((v4 < (m 17 v1) → k_Grammar_nameAt v1 v4 m ∧ ∀ v5 : Int, v5 = x_Grammar_nameAt v1 v4 m → (((v5 = (-1)) → (k_Grammar_partAt v1 v4 m)) ∧ (¬ (v5 = (-1)) → (0 ≤ v5 ∧ v5 < 8))) ∧ ∀ v3' : Int, v3' = gh_ior_f v3 (if v5 = (-1) then (x_Grammar_partAt v1 v4 m) else (m 22 v5)) → ((v5 = (-1) → Q v3') ∧ (¬ (v5 = (-1)) → (((gh_iand_f (gh_ishr_f (m 20 1) v5) 1) = 0 → Q v3') ∧ (¬ ((gh_iand_f (gh_ishr_f (m 20 1) v5) 1) = 0) → gh_i (v4 + 1) ∧ K5 v3' (v4 + 1)))))) ∧ (¬ (v4 < (m 17 v1)) → Q v3))
def w_Facts_firstOfRow (v1 : Int) (v2 : Int) (m : gh_M) (Q : Int → Prop) : Prop := gh_L2 (fun K5 v3 v4 => f_Facts_firstOfRow_5 v1 Q m K5 v3 v4) 0 v2
theorem b_Facts_firstOfRow_5 {E : gh_E} {v1 : Int} {Q : Int → Prop} {K5 : Int → Int → Prop} (d : Nat) {m : gh_M} (hK : ∀ (v3 : Int) (v4 : Int), gh_F m → K5 v3 v4 → gh_T E (gh_yFacts_firstOfRow.cls, prog_4_method_14_code, 6, false, 0) (d + 2) 5 [(0, 2, 20), (1, 0, v1), (3, 0, v3), (4, 0, v4)] [] m (fun r m1 => m1 = m ∧ Q r)) (v3 : Int) (v4 : Int) (hF : gh_F m) (h : f_Facts_firstOfRow_5 v1 Q m K5 v3 v4) : gh_T E (gh_yFacts_firstOfRow.cls, prog_4_method_14_code, 6, false, 0) (d + 2) 5 [(0, 2, 20), (1, 0, v1), (3, 0, v3), (4, 0, v4)] [] m (fun r m1 => m1 = m ∧ Q r) := by
  have hK5 := hK
  unfold f_Facts_firstOfRow_5 at h
  refine gh_iload gd_Facts_firstOfRow_5 3 rfl ?_
  refine gh_aload_n gd_Facts_firstOfRow_7 0 rfl (by decide) ?_
  refine gf_20_0 gd_Facts_firstOfRow_8 gh_k239 hF ?_
  refine gf_13_6 gd_Facts_firstOfRow_11 gh_k205 hF ?_
  refine gh_iload_n gd_Facts_firstOfRow_14 1 rfl ?_
  obtain ⟨q630, h⟩ := h
  obtain ⟨q631, h⟩ := h
  refine la_17 gd_Facts_firstOfRow_15 hF q630 q631 rfl ?_
  obtain ⟨hA, hB⟩ := h
  refine gh_jge (tgt := 87) gd_Facts_firstOfRow_16 (by decide) (fun c632 => ?_) (fun c632 => ?_)
  · have h := hA c632
    refine gh_aload_n gd_Facts_firstOfRow_19 0 rfl (by decide) ?_
    refine gf_20_0 gd_Facts_firstOfRow_20 gh_k239 hF ?_
    refine gh_iload_n gd_Facts_firstOfRow_23 1 rfl ?_
    refine gh_iload gd_Facts_firstOfRow_24 3 rfl ?_
    obtain ⟨q633, h⟩ := h
    refine cv_Grammar_nameAt (d := d + 1) gd_Facts_firstOfRow_26 gh_k753 hF (Nat.le_of_ble_eq_true rfl) (gh_C.pe (e_Grammar_nameAt d v1 v4 hF q633) ?_)
    refine gh_name (fun v5 hn => ?_)
    have h := h v5 hn
    refine gh_istore (L2 := [(5, 0, v5), (0, 2, 20), (1, 0, v1), (3, 0, v3), (4, 0, v4)]) gd_Facts_firstOfRow_29 (by decide) rfl ?_
    refine gh_iload_n gd_Facts_firstOfRow_31 3 rfl ?_
    refine gh_iload gd_Facts_firstOfRow_32 0 rfl ?_
    refine gh_iconst gd_Facts_firstOfRow_34 (gh_r0 rfl) ?_
    obtain ⟨hk, h⟩ := h
    have k637 : ∀ x638 : Int, x638 = (if v5 = (-1) then (x_Grammar_partAt v1 v4 m) else (m 22 v5)) → gh_T E (gh_yFacts_firstOfRow.cls, prog_4_method_14_code, 6, false, 0) (d + 2) 58 [(5, 0, v5), (0, 2, 20), (1, 0, v1), (3, 0, v3), (4, 0, v4)] [(0, x638), (0, v3)] m (fun r m1 => m1 = m ∧ Q r) := by
      rintro _ rfl
      refine gh_ior gd_Facts_firstOfRow_58 ?_
      refine gh_name (fun v3' hn => ?_)
      have h := h v3' hn
      refine gh_istore_n (L2 := [(3, 0, v3'), (5, 0, v5), (0, 2, 20), (1, 0, v1), (4, 0, v4)]) gd_Facts_firstOfRow_59 (by decide) rfl ?_
      refine gh_iload gd_Facts_firstOfRow_60 1 rfl ?_
      refine gh_iconst gd_Facts_firstOfRow_62 (gh_r0 rfl) ?_
      obtain ⟨hA, hB⟩ := h
      refine gh_jeq (tgt := 87) gd_Facts_firstOfRow_63 (by decide) (fun c639 => ?_) (fun c639 => ?_)
      · have h := hA c639
        refine gh_iload_n gd_Facts_firstOfRow_87 0 rfl ?_
        exact gh_ret0 rfl gd_Facts_firstOfRow_88 ⟨rfl, h⟩
      · have h := hB c639
        refine gh_aload_n gd_Facts_firstOfRow_66 2 rfl (by decide) ?_
        refine gf_20_1 gd_Facts_firstOfRow_67 gh_k240 hF rfl ?_
        refine gh_iload gd_Facts_firstOfRow_70 1 rfl ?_
        refine gh_ishr gd_Facts_firstOfRow_72 ?_
        refine gh_iconst gd_Facts_firstOfRow_73 (gh_r0 rfl) ?_
        refine gh_iand gd_Facts_firstOfRow_74 ?_
        obtain ⟨hA, hB⟩ := h
        refine gh_zne (tgt := 81) gd_Facts_firstOfRow_75 (by decide) (fun c640 => ?_) (fun c640 => ?_)
        · have h := hA c640
          refine gh_goto (tgt := 87) gd_Facts_firstOfRow_78 (by decide) ?_
          refine gh_iload_n gd_Facts_firstOfRow_87 0 rfl ?_
          exact gh_ret0 rfl gd_Facts_firstOfRow_88 ⟨rfl, h⟩
        · have h := hB c640
          obtain ⟨q641, h⟩ := h
          refine gh_iinc (L2 := [(4, 0, v4 + 1), (3, 0, v3'), (5, 0, v5), (0, 2, 20), (1, 0, v1)]) gd_Facts_firstOfRow_81 4 rfl q641 (by decide) rfl ?_
          refine gh_goto (tgt := 5) gd_Facts_firstOfRow_84 (by decide) ?_
          refine gh_pick (L2 := [(0, 2, 20), (1, 0, v1), (3, 0, v3'), (4, 0, v4 + 1)]) [3, 4, 1, 0] rfl ?_
          exact hK5 v3' (v4 + 1) hF h
    refine gh_jne (tgt := 51) gd_Facts_firstOfRow_35 (by decide) (fun c642 => ?_) (fun c642 => ?_)
    · have hz : True := trivial
      have hk := hk.1 c642
      refine gh_aload_n gd_Facts_firstOfRow_38 1 rfl (by decide) ?_
      refine gf_20_0 gd_Facts_firstOfRow_39 gh_k239 hF ?_
      refine gh_iload_n gd_Facts_firstOfRow_42 2 rfl ?_
      refine gh_iload gd_Facts_firstOfRow_43 4 rfl ?_
      have q634 := hk
      refine cv_Grammar_partAt (d := d + 1) gd_Facts_firstOfRow_45 gh_k810 hF (Nat.le_of_ble_eq_true rfl) (gh_C.pe (e_Grammar_partAt (d + 1) v1 v4 hF q634) ?_)
      refine gh_goto (tgt := 58) gd_Facts_firstOfRow_48 (by decide) ?_
      exact k637 _ (by rw [if_pos c642])
    · have hz : True := trivial
      have hk := hk.2 c642
      refine gh_aload_n gd_Facts_firstOfRow_51 1 rfl (by decide) ?_
      refine gf_20_7 gd_Facts_firstOfRow_52 gh_k255 hF ?_
      refine gh_iload gd_Facts_firstOfRow_55 0 rfl ?_
      obtain ⟨q635, hk⟩ := hk
      have q636 := hk
      refine la_22 gd_Facts_firstOfRow_57 hF q635 q636 rfl ?_
      exact k637 _ (by rw [if_neg c642])
  · have h := hB c632
    refine gh_iload_n gd_Facts_firstOfRow_87 2 rfl ?_
    exact gh_ret0 rfl gd_Facts_firstOfRow_88 ⟨rfl, h⟩
theorem s_Facts_firstOfRow {E : gh_E} {m : gh_M} {Q : Int → Prop} (d : Nat) (v1 : Int) (v2 : Int) (hF : gh_F m) (h : w_Facts_firstOfRow v1 v2 m Q) : gh_C E gh_yFacts_firstOfRow prog_4_method_14_code 6 (some .int) 0 (d + 2) [(2, 20), (0, v1), (0, v2)] m (fun r m1 => m1 = m ∧ Q r) := by
  refine gh_enter2 (L := [(0, 2, 20), (1, 0, v1), (2, 0, v2)]) (by decide +kernel) gh_rt0 (Nat.le_of_ble_eq_true rfl) rfl rfl ?_
  unfold w_Facts_firstOfRow at h
  refine gh_iconst gd_Facts_firstOfRow_0 (gh_r0 rfl) ?_
  refine gh_istore_n (L2 := [(3, 0, 0), (0, 2, 20), (1, 0, v1), (2, 0, v2)]) gd_Facts_firstOfRow_1 (by decide) rfl ?_
  refine gh_iload_n gd_Facts_firstOfRow_2 3 rfl ?_
  refine gh_istore (L2 := [(4, 0, v2), (3, 0, 0), (0, 2, 20), (1, 0, v1), (2, 0, v2)]) gd_Facts_firstOfRow_3 (by decide) rfl ?_
  refine gh_pick (L2 := [(0, 2, 20), (1, 0, v1), (3, 0, 0), (4, 0, v2)]) [2, 3, 1, 0] rfl ?_
  exact gh_L2_sound (T := fun v3 v4 => gh_T E (gh_yFacts_firstOfRow.cls, prog_4_method_14_code, 6, false, 0) (d + 2) 5 [(0, 2, 20), (1, 0, v1), (3, 0, v3), (4, 0, v4)] [] m (fun r m1 => m1 = m ∧ Q r)) (fun _ _ => gh_F m) (fun K5 v3 v4 hK hF h => b_Facts_firstOfRow_5 d hK v3 v4 hF h) 0 v2 hF h
def f_Facts_findFirst_23 (v1 : Int) (K10 : Int → gh_M → Prop) (K23 : Int → gh_M → Prop) (v2 : Int) (m : gh_M) : Prop := ((v2 < (m 13 2) → ∃ J65 : gh_M → Prop, (∀ (m : gh_M), J65 m → gh_i (v2 + 1) ∧ K23 (v2 + 1) m) ∧ ((p_Facts_isUsefulRule v2 m → 0 ≤ v2 ∧ v2 < 20 ∧ 0 ≤ m 16 v2 ∧ (m 16 v2) < 8 ∧ w_Facts_firstOfRow v2 0 m (fun r651 => 0 ≤ m 16 v2 ∧ (m 16 v2) < 8 ∧ J65 (gh_u m 22 (m 16 v2) (gh_ior_f (m 22 (m 16 v2)) r651)))) ∧ (¬ (p_Facts_isUsefulRule v2 m) → J65 m))) ∧ (¬ (v2 < (m 13 2)) → gh_i (v1 + 1) ∧ K10 (v1 + 1) m))
def f_Facts_findFirst_10 (Q : Int → gh_M → Prop) (K10 : Int → gh_M → Prop) (v1 : Int) (m : gh_M) : Prop := ((v1 < (m 13 1) → gh_M1 (fun K23 v2 m => f_Facts_findFirst_23 v1 K10 K23 v2 m) 0 m) ∧ (¬ (v1 < (m 13 1)) → Q 0 m))
def w_Facts_findFirst (m : gh_M) (Q : Int → gh_M → Prop) : Prop := gh_M1 (fun K10 v1 m => f_Facts_findFirst_10 Q K10 v1 m) 0 (gh_fil m 22 8 0)
theorem b_Facts_findFirst_23 {E : gh_E} {v1 : Int} {K10 : Int → gh_M → Prop} {Q : Int → gh_M → Prop} {K23 : Int → gh_M → Prop} (d : Nat) (hK10 : ∀ (v1 : Int) (m : gh_M), gh_F m → K10 v1 m → gh_T E (gh_yFacts_findFirst.cls, prog_4_method_13_code, 3, false, 9) (d + 3) 10 [(0, 2, 20), (1, 0, v1)] [] m (fun r m1 => gh_F m1 ∧ Q r m1)) (hK : ∀ (v2 : Int) (m : gh_M), gh_F m → K23 v2 m → gh_T E (gh_yFacts_findFirst.cls, prog_4_method_13_code, 3, false, 9) (d + 3) 23 [(0, 2, 20), (1, 0, v1), (2, 0, v2)] [] m (fun r m1 => gh_F m1 ∧ Q r m1)) (v2 : Int) (m : gh_M) (hF : gh_F m) (h : f_Facts_findFirst_23 v1 K10 K23 v2 m) : gh_T E (gh_yFacts_findFirst.cls, prog_4_method_13_code, 3, false, 9) (d + 3) 23 [(0, 2, 20), (1, 0, v1), (2, 0, v2)] [] m (fun r m1 => gh_F m1 ∧ Q r m1) := by
  have hK23 := hK
  unfold f_Facts_findFirst_23 at h
  refine gh_iload_n gd_Facts_findFirst_23 2 rfl ?_
  refine gh_aload_n gd_Facts_findFirst_24 0 rfl (by decide) ?_
  refine gf_20_0 gd_Facts_findFirst_25 gh_k239 hF ?_
  refine gf_13_2 gd_Facts_findFirst_28 gh_k187 hF rfl ?_
  obtain ⟨hA, hB⟩ := h
  refine gh_jge (tgt := 71) gd_Facts_findFirst_31 (by decide) (fun c644 => ?_) (fun c644 => ?_)
  · have h := hA c644
    refine gh_aload_n gd_Facts_findFirst_34 0 rfl (by decide) ?_
    refine gh_iload_n gd_Facts_findFirst_35 2 rfl ?_
    refine cv_Facts_isUsefulRule (d := d + 2) gd_Facts_findFirst_36 gh_k802 hF (Nat.le_of_ble_eq_true rfl) (gh_C.pe (e_Facts_isUsefulRule (d + 2) v2 hF) ?_)
    obtain ⟨J65, hJ65, h⟩ := h
    have hJ65 : ∀ (m : gh_M), gh_F m → J65 m → gh_T E (gh_yFacts_findFirst.cls, prog_4_method_13_code, 3, false, 9) (d + 3) 65 [(0, 2, 20), (1, 0, v1), (2, 0, v2)] [] m (fun r m1 => gh_F m1 ∧ Q r m1) := by
      intro m hF hj
      have h := hJ65 m hj
      obtain ⟨q645, h⟩ := h
      refine gh_iinc (L2 := [(2, 0, v2 + 1), (0, 2, 20), (1, 0, v1)]) gd_Facts_findFirst_65 2 rfl q645 (by decide) rfl ?_
      refine gh_goto (tgt := 23) gd_Facts_findFirst_68 (by decide) ?_
      refine gh_pick (L2 := [(0, 2, 20), (1, 0, v1), (2, 0, v2 + 1)]) [1, 2, 0] rfl ?_
      exact hK23 (v2 + 1) m hF h
    obtain ⟨hA, hB⟩ := h
    refine gh_beq (tgt := 65) gd_Facts_findFirst_39 (by decide) (fun c646 => ?_) (fun c646 => ?_)
    · have h := hA c646
      refine gh_aload_n gd_Facts_findFirst_42 0 rfl (by decide) ?_
      refine gf_20_7 gd_Facts_findFirst_43 gh_k255 hF ?_
      refine gh_aload_n gd_Facts_findFirst_46 0 rfl (by decide) ?_
      refine gf_20_0 gd_Facts_findFirst_47 gh_k239 hF ?_
      refine gf_13_5 gd_Facts_findFirst_50 gh_k200 hF ?_
      refine gh_iload_n gd_Facts_findFirst_53 2 rfl ?_
      obtain ⟨q647, h⟩ := h
      obtain ⟨q648, h⟩ := h
      refine la_16 gd_Facts_findFirst_54 hF q647 q648 rfl ?_
      refine gh_dup2 gd_Facts_findFirst_55 (by decide) (by decide) ?_
      obtain ⟨q649, h⟩ := h
      obtain ⟨q650, h⟩ := h
      refine la_22 gd_Facts_findFirst_56 hF q649 q650 rfl ?_
      refine gh_aload_n gd_Facts_findFirst_57 0 rfl (by decide) ?_
      refine gh_iload_n gd_Facts_findFirst_58 2 rfl ?_
      refine gh_iconst gd_Facts_findFirst_59 (gh_r0 rfl) ?_
      refine cv_Facts_firstOfRow (d := d + 2) gd_Facts_findFirst_60 gh_k806 hF (Nat.le_of_ble_eq_true rfl) (gh_C.pw (s_Facts_firstOfRow d v2 0 hF h) (fun r651 h => ?_))
      refine gh_ior gd_Facts_findFirst_63 ?_
      obtain ⟨q653, h⟩ := h
      obtain ⟨q654, h⟩ := h
      refine sa_22 gd_Facts_findFirst_64 hF q653 q654 (fun hF => ?_)
      exact hJ65 (gh_u m 22 (m 16 v2) (gh_ior_f (m 22 (m 16 v2)) r651)) hF h
    · have h := hB c646
      exact hJ65 m hF h
  · have h := hB c644
    obtain ⟨q655, h⟩ := h
    refine gh_iinc (L2 := [(1, 0, v1 + 1), (0, 2, 20), (2, 0, v2)]) gd_Facts_findFirst_71 1 rfl q655 (by decide) rfl ?_
    refine gh_goto (tgt := 10) gd_Facts_findFirst_74 (by decide) ?_
    refine gh_pick (L2 := [(0, 2, 20), (1, 0, v1 + 1)]) [1, 0] rfl ?_
    exact hK10 (v1 + 1) m hF h
theorem b_Facts_findFirst_10 {E : gh_E} {Q : Int → gh_M → Prop} {K10 : Int → gh_M → Prop} (d : Nat) (hK : ∀ (v1 : Int) (m : gh_M), gh_F m → K10 v1 m → gh_T E (gh_yFacts_findFirst.cls, prog_4_method_13_code, 3, false, 9) (d + 3) 10 [(0, 2, 20), (1, 0, v1)] [] m (fun r m1 => gh_F m1 ∧ Q r m1)) (v1 : Int) (m : gh_M) (hF : gh_F m) (h : f_Facts_findFirst_10 Q K10 v1 m) : gh_T E (gh_yFacts_findFirst.cls, prog_4_method_13_code, 3, false, 9) (d + 3) 10 [(0, 2, 20), (1, 0, v1)] [] m (fun r m1 => gh_F m1 ∧ Q r m1) := by
  have hK10 := hK
  unfold f_Facts_findFirst_10 at h
  refine gh_iload_n gd_Facts_findFirst_10 1 rfl ?_
  refine gh_aload_n gd_Facts_findFirst_11 0 rfl (by decide) ?_
  refine gf_20_0 gd_Facts_findFirst_12 gh_k239 hF ?_
  refine gf_13_1 gd_Facts_findFirst_15 gh_k182 hF rfl ?_
  obtain ⟨hA, hB⟩ := h
  refine gh_jge (tgt := 77) gd_Facts_findFirst_18 (by decide) (fun c643 => ?_) (fun c643 => ?_)
  · have h := hA c643
    refine gh_iconst gd_Facts_findFirst_21 (gh_r0 rfl) ?_
    refine gh_istore_n (L2 := [(2, 0, 0), (0, 2, 20), (1, 0, v1)]) gd_Facts_findFirst_22 (by decide) rfl ?_
    refine gh_pick (L2 := [(0, 2, 20), (1, 0, v1), (2, 0, 0)]) [1, 2, 0] rfl ?_
    exact gh_M1_sound (T := fun v2 m => gh_T E (gh_yFacts_findFirst.cls, prog_4_method_13_code, 3, false, 9) (d + 3) 23 [(0, 2, 20), (1, 0, v1), (2, 0, v2)] [] m (fun r m1 => gh_F m1 ∧ Q r m1)) (fun _ m => gh_F m) (fun K23 v2 m hK hF h => b_Facts_findFirst_23 d hK10 hK v2 m hF h) 0 m hF h
  · have h := hB c643
    exact gh_ret9 rfl gd_Facts_findFirst_77 ⟨hF, h⟩
theorem s_Facts_findFirst {E : gh_E} {m : gh_M} {Q : Int → gh_M → Prop} (d : Nat) (hF : gh_F m) (h : w_Facts_findFirst m Q) : gh_C E gh_yFacts_findFirst prog_4_method_13_code 3 none 9 (d + 3) [(2, 20)] m (fun r m1 => gh_F m1 ∧ Q r m1) := by
  refine gh_enter2 (L := [(0, 2, 20)]) (by decide +kernel) gh_rt9 (Nat.le_of_ble_eq_true rfl) rfl rfl ?_
  unfold w_Facts_findFirst at h
  refine gh_aload_n gd_Facts_findFirst_0 0 rfl (by decide) ?_
  refine gf_20_7 gd_Facts_findFirst_1 gh_k255 hF ?_
  refine gh_iconst gd_Facts_findFirst_4 (gh_r0 rfl) ?_
  refine gh_fillF (d := d + 2) gd_Facts_findFirst_5 gh_k770 (ga_22 hF) (Nat.le_of_ble_eq_true rfl) hF gn_22 (by decide) (fun hF => ?_)
  refine gh_iconst gd_Facts_findFirst_8 (gh_r0 rfl) ?_
  refine gh_istore_n (L2 := [(1, 0, 0), (0, 2, 20)]) gd_Facts_findFirst_9 (by decide) rfl ?_
  refine gh_pick (L2 := [(0, 2, 20), (1, 0, 0)]) [1, 0] rfl ?_
  exact gh_M1_sound (T := fun v1 m => gh_T E (gh_yFacts_findFirst.cls, prog_4_method_13_code, 3, false, 9) (d + 3) 10 [(0, 2, 20), (1, 0, v1)] [] m (fun r m1 => gh_F m1 ∧ Q r m1)) (fun _ m => gh_F m) (fun K10 v1 m hK hF h => b_Facts_findFirst_10 d hK v1 m hF h) 0 (gh_fil m 22 8 0) hF h
