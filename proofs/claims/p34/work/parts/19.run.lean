def f_Chart_refresh_80 (Q : Int → gh_M → Prop) (K80 : Int → gh_M → Prop) (v1 : Int) (m : gh_M) : Prop := ((v1 ≤ (m 26 3) → 0 ≤ v1 ∧ v1 < 9 ∧ 0 ≤ v1 ∧ v1 < 9 ∧ gh_i (v1 + 1) ∧ K80 (v1 + 1) (gh_u m 35 v1 (gh_ior_f (m 35 v1) (gh_ishl_f (gh_iand_f (gh_ishr_f (m 31 0) v1) 1) 26)))) ∧ (¬ (v1 ≤ (m 26 3)) → Q 0 m))
def f_Chart_refresh_29 (Q : Int → gh_M → Prop) (K29 : Int → gh_M → Prop) (v1 : Int) (m : gh_M) : Prop := ((v1 < 0 → w_Chart_await_32 0 (gh_fil (gh_fil m 34 9 0) 35 9 0) (fun _ m1023 => w_Chart_await_33 1 m1023 (fun _ m1095 => gh_M1 (fun K80 v1 m => f_Chart_refresh_80 Q K80 v1 m) 0 m1095))) ∧ (¬ (v1 < 0) → w_Chart_findEnds v1 m (fun _ m1173 => gh_i (v1 + (-1)) ∧ K29 (v1 + (-1)) m1173)))
def w_Chart_refresh (m : gh_M) (Q : Int → gh_M → Prop) : Prop := (((m 30 3) = 0 → ∀ v1 : Int, v1 = (gh_fil (gh_u m 30 3 1) 31 72 0) 26 3 → gh_M1 (fun K29 v1 m => f_Chart_refresh_29 Q K29 v1 m) v1 (gh_fil (gh_u m 30 3 1) 31 72 0)) ∧ (¬ ((m 30 3) = 0) → Q 0 m))
theorem b_Chart_refresh_80 {E : gh_E} {Q : Int → gh_M → Prop} {K80 : Int → gh_M → Prop} (d : Nat) (hK : ∀ (v1 : Int) (m : gh_M), gh_F m → K80 v1 m → gh_T E (gh_yChart_refresh.cls, prog_2_method_4_code, 2, false, 9) (d + 5) 80 [(0, 2, 30), (1, 0, v1)] [] m (fun r m1 => gh_F m1 ∧ Q r m1)) (v1 : Int) (m : gh_M) (hF : gh_F m) (h : f_Chart_refresh_80 Q K80 v1 m) : gh_T E (gh_yChart_refresh.cls, prog_2_method_4_code, 2, false, 9) (d + 5) 80 [(0, 2, 30), (1, 0, v1)] [] m (fun r m1 => gh_F m1 ∧ Q r m1) := by
  have hK80 := hK
  unfold f_Chart_refresh_80 at h
  refine gh_iload_n gd_Chart_refresh_80 1 rfl ?_
  refine gh_aload_n gd_Chart_refresh_81 0 rfl (by decide) ?_
  refine gf_30_2 gd_Chart_refresh_82 gh_k331 hF ?_
  refine gf_26_3 gd_Chart_refresh_85 gh_k296 hF rfl ?_
  obtain ⟨hA, hB⟩ := h
  refine gh_jgt (tgt := 119) gd_Chart_refresh_88 (by decide) (fun c1166 => ?_) (fun c1166 => ?_)
  · have h := hA c1166
    refine gh_aload_n gd_Chart_refresh_91 0 rfl (by decide) ?_
    refine gf_30_8 gd_Chart_refresh_92 gh_k339 hF ?_
    refine gh_iload_n gd_Chart_refresh_95 1 rfl ?_
    refine gh_dup2 gd_Chart_refresh_96 (by decide) (by decide) ?_
    obtain ⟨q1167, h⟩ := h
    obtain ⟨q1168, h⟩ := h
    refine la_35 gd_Chart_refresh_97 hF q1167 q1168 rfl ?_
    refine gh_aload_n gd_Chart_refresh_98 0 rfl (by decide) ?_
    refine gf_30_4 gd_Chart_refresh_99 gh_k334 hF ?_
    refine gh_iconst gd_Chart_refresh_102 (gh_r0 rfl) ?_
    refine la_31 gd_Chart_refresh_103 hF (by decide) (by decide) rfl ?_
    refine gh_iload_n gd_Chart_refresh_104 1 rfl ?_
    refine gh_ishr gd_Chart_refresh_105 ?_
    refine gh_iconst gd_Chart_refresh_106 (gh_r0 rfl) ?_
    refine gh_iand gd_Chart_refresh_107 ?_
    refine gh_bipush gd_Chart_refresh_108 (by decide) (gh_r0 rfl) ?_
    refine gh_ishl gd_Chart_refresh_110 ?_
    refine gh_ior gd_Chart_refresh_111 ?_
    obtain ⟨q1169, h⟩ := h
    obtain ⟨q1170, h⟩ := h
    refine sa_35 gd_Chart_refresh_112 hF q1169 q1170 (fun hF => ?_)
    obtain ⟨q1171, h⟩ := h
    refine gh_iinc (L2 := [(1, 0, v1 + 1), (0, 2, 30)]) gd_Chart_refresh_113 1 rfl q1171 (by decide) rfl ?_
    refine gh_goto (tgt := 80) gd_Chart_refresh_116 (by decide) ?_
    refine gh_pick (L2 := [(0, 2, 30), (1, 0, v1 + 1)]) [1, 0] rfl ?_
    exact hK80 (v1 + 1) (gh_u m 35 v1 (gh_ior_f (m 35 v1) (gh_ishl_f (gh_iand_f (gh_ishr_f (m 31 0) v1) 1) 26))) hF h
  · have h := hB c1166
    exact gh_ret9 rfl gd_Chart_refresh_119 ⟨hF, h⟩
theorem b_Chart_refresh_29 {E : gh_E} {Q : Int → gh_M → Prop} {K29 : Int → gh_M → Prop} (d : Nat) (hK : ∀ (v1 : Int) (m : gh_M), gh_F m → K29 v1 m → gh_T E (gh_yChart_refresh.cls, prog_2_method_4_code, 2, false, 9) (d + 5) 29 [(0, 2, 30), (1, 0, v1)] [] m (fun r m1 => gh_F m1 ∧ Q r m1)) (v1 : Int) (m : gh_M) (hF : gh_F m) (h : f_Chart_refresh_29 Q K29 v1 m) : gh_T E (gh_yChart_refresh.cls, prog_2_method_4_code, 2, false, 9) (d + 5) 29 [(0, 2, 30), (1, 0, v1)] [] m (fun r m1 => gh_F m1 ∧ Q r m1) := by
  have hK29 := hK
  unfold f_Chart_refresh_29 at h
  refine gh_iload_n gd_Chart_refresh_29 1 rfl ?_
  obtain ⟨hA, hB⟩ := h
  refine gh_zlt (tgt := 44) gd_Chart_refresh_30 (by decide) (fun c1021 => ?_) (fun c1021 => ?_)
  · have h := hA c1021
    refine gh_aload_n gd_Chart_refresh_44 0 rfl (by decide) ?_
    refine gf_30_7 gd_Chart_refresh_45 gh_k337 hF ?_
    refine gh_iconst gd_Chart_refresh_48 (gh_r0 rfl) ?_
    refine gh_fillF (d := d + 4) gd_Chart_refresh_49 gh_k911 (ga_34 hF) (Nat.le_of_ble_eq_true rfl) hF gn_34 (by decide) (fun hF => ?_)
    refine gh_aload_n gd_Chart_refresh_52 0 rfl (by decide) ?_
    refine gf_30_8 gd_Chart_refresh_53 gh_k339 hF ?_
    refine gh_iconst gd_Chart_refresh_56 (gh_r0 rfl) ?_
    refine gh_fillF (d := d + 4) gd_Chart_refresh_57 gh_k911 (ga_35 hF) (Nat.le_of_ble_eq_true rfl) hF gn_35 (by decide) (fun hF => ?_)
    refine gh_aload_n gd_Chart_refresh_60 0 rfl (by decide) ?_
    refine gh_aload_n gd_Chart_refresh_61 0 rfl (by decide) ?_
    refine gf_30_5 gd_Chart_refresh_62 gh_k335 hF ?_
    refine gh_iconst gd_Chart_refresh_65 (gh_r0 rfl) ?_
    refine cv_Chart_await (d := d + 4) gd_Chart_refresh_66 gh_k930 hF (Nat.le_of_ble_eq_true rfl) (gh_C.mono (s_Chart_await_32 d 0 hF h) (fun r1022 m1023 hq => ?_))
    obtain ⟨hF, h⟩ := hq
    refine gh_aload_n gd_Chart_refresh_69 0 rfl (by decide) ?_
    refine gh_aload_n gd_Chart_refresh_70 0 rfl (by decide) ?_
    refine gf_30_6 gd_Chart_refresh_71 gh_k336 hF ?_
    refine gh_iconst gd_Chart_refresh_74 (gh_r0 rfl) ?_
    refine cv_Chart_await (d := d + 4) gd_Chart_refresh_75 gh_k930 hF (Nat.le_of_ble_eq_true rfl) (gh_C.mono (s_Chart_await_33 d 1 hF h) (fun r1094 m1095 hq => ?_))
    obtain ⟨hF, h⟩ := hq
    refine gh_iconst gd_Chart_refresh_78 (gh_r0 rfl) ?_
    refine gh_istore_n (L2 := [(1, 0, 0), (0, 2, 30)]) gd_Chart_refresh_79 (by decide) rfl ?_
    refine gh_pick (L2 := [(0, 2, 30), (1, 0, 0)]) [1, 0] rfl ?_
    exact gh_M1_sound (T := fun v1 m => gh_T E (gh_yChart_refresh.cls, prog_2_method_4_code, 2, false, 9) (d + 5) 80 [(0, 2, 30), (1, 0, v1)] [] m (fun r m1 => gh_F m1 ∧ Q r m1)) (fun _ m => gh_F m) (fun K80 v1 m hK hF h => b_Chart_refresh_80 d hK v1 m hF h) 0 m1095 hF h
  · have h := hB c1021
    refine gh_aload_n gd_Chart_refresh_33 0 rfl (by decide) ?_
    refine gh_iload_n gd_Chart_refresh_34 1 rfl ?_
    refine cv_Chart_findEnds (d := d + 4) gd_Chart_refresh_35 gh_k912 hF (Nat.le_of_ble_eq_true rfl) (gh_C.mono (s_Chart_findEnds (d + 1) v1 hF h) (fun r1172 m1173 hq => ?_))
    obtain ⟨hF, h⟩ := hq
    obtain ⟨q1174, h⟩ := h
    refine gh_iinc (L2 := [(1, 0, v1 + (-1)), (0, 2, 30)]) gd_Chart_refresh_38 1 rfl q1174 (by decide) rfl ?_
    refine gh_goto (tgt := 29) gd_Chart_refresh_41 (by decide) ?_
    refine gh_pick (L2 := [(0, 2, 30), (1, 0, v1 + (-1))]) [1, 0] rfl ?_
    exact hK29 (v1 + (-1)) m1173 hF h
theorem s_Chart_refresh {E : gh_E} {m : gh_M} {Q : Int → gh_M → Prop} (d : Nat) (hF : gh_F m) (h : w_Chart_refresh m Q) : gh_C E gh_yChart_refresh prog_2_method_4_code 2 none 9 (d + 5) [(2, 30)] m (fun r m1 => gh_F m1 ∧ Q r m1) := by
  refine gh_enter2 (L := [(0, 2, 30)]) (by decide +kernel) gh_rt9 (Nat.le_of_ble_eq_true rfl) rfl rfl ?_
  unfold w_Chart_refresh at h
  refine gh_aload_n gd_Chart_refresh_0 0 rfl (by decide) ?_
  refine gf_30_3 gd_Chart_refresh_1 gh_k332 hF rfl ?_
  obtain ⟨hA, hB⟩ := h
  refine gh_zeq (tgt := 8) gd_Chart_refresh_4 (by decide) (fun c1020 => ?_) (fun c1020 => ?_)
  · have h := hA c1020
    refine gh_aload_n gd_Chart_refresh_8 0 rfl (by decide) ?_
    refine gh_iconst gd_Chart_refresh_9 (gh_r0 rfl) ?_
    refine pf_30_3 gd_Chart_refresh_10 gh_k332 hF (by decide) (fun hF => ?_)
    refine gh_aload_n gd_Chart_refresh_13 0 rfl (by decide) ?_
    refine gf_30_4 gd_Chart_refresh_14 gh_k334 hF ?_
    refine gh_iconst gd_Chart_refresh_17 (gh_r0 rfl) ?_
    refine gh_fillF (d := d + 4) gd_Chart_refresh_18 gh_k911 (ga_31 hF) (Nat.le_of_ble_eq_true rfl) hF gn_31 (by decide) (fun hF => ?_)
    refine gh_aload_n gd_Chart_refresh_21 0 rfl (by decide) ?_
    refine gf_30_2 gd_Chart_refresh_22 gh_k331 hF ?_
    refine gf_26_3 gd_Chart_refresh_25 gh_k296 hF rfl ?_
    refine gh_name (fun v1 hn => ?_)
    have h := h v1 hn
    refine gh_istore_n (L2 := [(1, 0, v1), (0, 2, 30)]) gd_Chart_refresh_28 (by decide) rfl ?_
    refine gh_pick (L2 := [(0, 2, 30), (1, 0, v1)]) [1, 0] rfl ?_
    exact gh_M1_sound (T := fun v1 m => gh_T E (gh_yChart_refresh.cls, prog_2_method_4_code, 2, false, 9) (d + 5) 29 [(0, 2, 30), (1, 0, v1)] [] m (fun r m1 => gh_F m1 ∧ Q r m1)) (fun _ m => gh_F m) (fun K29 v1 m hK hF h => b_Chart_refresh_29 d hK v1 m hF h) v1 (gh_fil (gh_u m 30 3 1) 31 72 0) hF h
  · have h := hB c1020
    exact gh_ret9 rfl gd_Chart_refresh_7 ⟨hF, h⟩
def w_House_accepts (v1 : Int) (m : gh_M) (Q : Int → gh_M → Prop) : Prop := (((m 2 10) = 0 → Q (-1003) m) ∧ (¬ ((m 2 10) = 0) → ((p_House_isPlace v1 m → w_Chart_refresh m (fun _ m1178 => k_Chart_covers 0 0 v1 ∧ Q (if (p_Chart_covers 0 0 v1 m1178) then (1:Int) else 0) m1178)) ∧ (¬ (p_House_isPlace v1 m) → Q (-1001) m))))
theorem s_House_accepts {E : gh_E} {m : gh_M} {Q : Int → gh_M → Prop} (d : Nat) (v1 : Int) (hF : gh_F m) (h : w_House_accepts v1 m Q) : gh_C E gh_yHouse_accepts prog_1_method_19_code 2 (some .int) 0 (d + 6) [(2, 2), (0, v1)] m (fun r m1 => gh_F m1 ∧ Q r m1) := by
  refine gh_enter2 (L := [(0, 2, 2), (1, 0, v1)]) (by decide +kernel) gh_rt0 (Nat.le_of_ble_eq_true rfl) rfl rfl ?_
  unfold w_House_accepts at h
  refine gh_aload_n gd_House_accepts_0 0 rfl (by decide) ?_
  refine gf_2_10 gd_House_accepts_1 gh_k550 hF rfl ?_
  obtain ⟨hA, hB⟩ := h
  refine gh_zne (tgt := 11) gd_House_accepts_4 (by decide) (fun c1175 => ?_) (fun c1175 => ?_)
  · have h := hA c1175
    refine gh_sipush gd_House_accepts_7 (by decide) (gh_r0 rfl) ?_
    exact gh_ret0 rfl gd_House_accepts_10 ⟨hF, h⟩
  · have h := hB c1175
    refine gh_aload_n gd_House_accepts_11 0 rfl (by decide) ?_
    refine gh_iload_n gd_House_accepts_12 1 rfl ?_
    refine cv_House_isPlace (d := d + 5) gd_House_accepts_13 gh_k903 hF (Nat.le_of_ble_eq_true rfl) (gh_C.pe (e_House_isPlace (d + 5) v1 hF) ?_)
    obtain ⟨hA, hB⟩ := h
    refine gh_bne (tgt := 23) gd_House_accepts_16 (by decide) (fun c1176 => ?_) (fun c1176 => ?_)
    · have h := hA c1176
      refine gh_aload_n gd_House_accepts_23 0 rfl (by decide) ?_
      refine gf_2_5 gd_House_accepts_24 gh_k545 hF ?_
      refine cv_Chart_refresh (d := d + 5) gd_House_accepts_27 gh_k907 hF (Nat.le_of_ble_eq_true rfl) (gh_C.mono (s_Chart_refresh d hF h) (fun r1177 m1178 hq => ?_))
      obtain ⟨hF, h⟩ := hq
      refine gh_aload_n gd_House_accepts_30 0 rfl (by decide) ?_
      refine gf_2_5 gd_House_accepts_31 gh_k545 hF ?_
      refine gh_iconst gd_House_accepts_34 (gh_r0 rfl) ?_
      refine gh_iconst gd_House_accepts_35 (gh_r0 rfl) ?_
      refine gh_iload_n gd_House_accepts_36 1 rfl ?_
      obtain ⟨q1179, h⟩ := h
      refine cv_Chart_covers (d := d + 5) gd_House_accepts_37 gh_k947 hF (Nat.le_of_ble_eq_true rfl) (gh_C.pe (e_Chart_covers (d + 5) 0 0 v1 hF q1179) ?_)
      have k1180 : ∀ x1181 : Int, x1181 = (if (p_Chart_covers 0 0 v1 m1178) then (1:Int) else 0) → gh_T E (gh_yHouse_accepts.cls, prog_1_method_19_code, 2, false, 0) (d + 6) 48 [(0, 2, 2), (1, 0, v1)] [(0, x1181)] m1178 (fun r m1 => gh_F m1 ∧ Q r m1) := by
        rintro _ rfl
        exact gh_ret0 rfl gd_House_accepts_48 ⟨hF, h⟩
      refine gh_beq (tgt := 47) gd_House_accepts_40 (by decide) (fun c1182 => ?_) (fun c1182 => ?_)
      · have hz : True := trivial
        refine gh_iconst gd_House_accepts_43 (gh_r0 rfl) ?_
        refine gh_goto (tgt := 48) gd_House_accepts_44 (by decide) ?_
        exact k1180 _ (if_pos (c := (p_Chart_covers 0 0 v1 m1178)) c1182).symm
      · have hz : True := trivial
        refine gh_iconst gd_House_accepts_47 (gh_r0 rfl) ?_
        exact k1180 _ (if_neg (c := (p_Chart_covers 0 0 v1 m1178)) c1182).symm
    · have h := hB c1176
      refine gh_sipush gd_House_accepts_19 (by decide) (gh_r0 rfl) ?_
      exact gh_ret0 rfl gd_House_accepts_22 ⟨hF, h⟩
def f_Tape_areSigns_2 (v0 : Int) (Q : Int → Prop) (m : gh_M) (K2 : Int → Prop) (v1 : Int) : Prop := ((v1 < 32 → ∀ v2 : Int, v2 = gh_iand_f (gh_iushr_f v0 v1) 255 → ∃ J34 : Prop, (J34 → gh_i (v1 + 8) ∧ K2 (v1 + 8)) ∧ ((((v2 = 0) ∨ (¬ (v2 < 32) ∧ (v2 ≤ 126))) → J34) ∧ (¬ ((v2 = 0) ∨ (¬ (v2 < 32) ∧ (v2 ≤ 126))) → Q 0))) ∧ (¬ (v1 < 32) → Q 1))
def w_Tape_areSigns (v0 : Int) (m : gh_M) (Q : Int → Prop) : Prop := gh_L1 (fun K2 v1 => f_Tape_areSigns_2 v0 Q m K2 v1) 0
theorem b_Tape_areSigns_2 {E : gh_E} {v0 : Int} {Q : Int → Prop} {K2 : Int → Prop} (d : Nat) {m : gh_M} (hK : ∀ (v1 : Int), gh_F m → K2 v1 → gh_T E (gh_yTape_areSigns.cls, prog_10_method_2_code, 3, false, 8) (d + 0) 2 [(0, 0, v0), (1, 0, v1)] [] m (fun r m1 => m1 = m ∧ Q r)) (v1 : Int) (hF : gh_F m) (h : f_Tape_areSigns_2 v0 Q m K2 v1) : gh_T E (gh_yTape_areSigns.cls, prog_10_method_2_code, 3, false, 8) (d + 0) 2 [(0, 0, v0), (1, 0, v1)] [] m (fun r m1 => m1 = m ∧ Q r) := by
  have hK2 := hK
  unfold f_Tape_areSigns_2 at h
  refine gh_iload_n gd_Tape_areSigns_2 1 rfl ?_
  refine gh_bipush gd_Tape_areSigns_3 (by decide) (gh_r0 rfl) ?_
  obtain ⟨hA, hB⟩ := h
  refine gh_jge (tgt := 40) gd_Tape_areSigns_5 (by decide) (fun c1183 => ?_) (fun c1183 => ?_)
  · have h := hA c1183
    refine gh_iload_n gd_Tape_areSigns_8 0 rfl ?_
    refine gh_iload_n gd_Tape_areSigns_9 1 rfl ?_
    refine gh_iushr gd_Tape_areSigns_10 ?_
    refine gh_sipush gd_Tape_areSigns_11 (by decide) (gh_r0 rfl) ?_
    refine gh_iand gd_Tape_areSigns_14 ?_
    refine gh_name (fun v2 hn => ?_)
    have h := h v2 hn
    refine gh_istore_n (L2 := [(2, 0, v2), (0, 0, v0), (1, 0, v1)]) gd_Tape_areSigns_15 (by decide) rfl ?_
    refine gh_iload_n gd_Tape_areSigns_16 0 rfl ?_
    obtain ⟨J34, hJ34, h⟩ := h
    have hJ34 : gh_F m → J34 → gh_T E (gh_yTape_areSigns.cls, prog_10_method_2_code, 3, false, 8) (d + 0) 34 [(0, 0, v0), (1, 0, v1)] [] m (fun r m1 => m1 = m ∧ Q r) := by
      intro hF hj
      have h := hJ34 hj
      obtain ⟨q1184, h⟩ := h
      refine gh_iinc (L2 := [(1, 0, v1 + 8), (0, 0, v0)]) gd_Tape_areSigns_34 1 rfl q1184 (by decide) rfl ?_
      refine gh_goto (tgt := 2) gd_Tape_areSigns_37 (by decide) ?_
      refine gh_pick (L2 := [(0, 0, v0), (1, 0, v1 + 8)]) [1, 0] rfl ?_
      exact hK2 (v1 + 8) hF h
    obtain ⟨hA, hB⟩ := h
    have k1185 : ((v2 = 0) ∨ (¬ (v2 < 32) ∧ (v2 ≤ 126))) → gh_T E (gh_yTape_areSigns.cls, prog_10_method_2_code, 3, false, 8) (d + 0) 34 [(2, 0, v2), (0, 0, v0), (1, 0, v1)] [] m (fun r m1 => m1 = m ∧ Q r) := by
      intro c
      have h := hA c
      refine gh_pick (L2 := [(0, 0, v0), (1, 0, v1)]) [1, 2] rfl ?_
      exact hJ34 hF h
    have k1186 : ¬ ((v2 = 0) ∨ (¬ (v2 < 32) ∧ (v2 ≤ 126))) → gh_T E (gh_yTape_areSigns.cls, prog_10_method_2_code, 3, false, 8) (d + 0) 32 [(2, 0, v2), (0, 0, v0), (1, 0, v1)] [] m (fun r m1 => m1 = m ∧ Q r) := by
      intro c
      have h := hB c
      refine gh_iconst gd_Tape_areSigns_32 (gh_r0 rfl) ?_
      exact gh_ret8 rfl gd_Tape_areSigns_33 (by decide) ⟨rfl, h⟩
    refine gh_zeq (tgt := 34) gd_Tape_areSigns_17 (by decide) (fun c1187 => ?_) (fun c1187 => ?_)
    · have hz : True := trivial
      exact k1185 (Or.inl c1187)
    · have hz : True := trivial
      refine gh_iload_n gd_Tape_areSigns_20 0 rfl ?_
      refine gh_bipush gd_Tape_areSigns_21 (by decide) (gh_r0 rfl) ?_
      refine gh_jlt (tgt := 32) gd_Tape_areSigns_23 (by decide) (fun c1188 => ?_) (fun c1188 => ?_)
      · have hz : True := trivial
        exact k1186 (fun z => z.elim c1187 (fun z => z.1 c1188))
      · have hz : True := trivial
        refine gh_iload_n gd_Tape_areSigns_26 0 rfl ?_
        refine gh_bipush gd_Tape_areSigns_27 (by decide) (gh_r0 rfl) ?_
        refine gh_jle (tgt := 34) gd_Tape_areSigns_29 (by decide) (fun c1189 => ?_) (fun c1189 => ?_)
        · have hz : True := trivial
          exact k1185 (Or.inr ⟨c1188, c1189⟩)
        · have hz : True := trivial
          exact k1186 (fun z => z.elim c1187 (fun z => c1189 z.2))
  · have h := hB c1183
    refine gh_iconst gd_Tape_areSigns_40 (gh_r0 rfl) ?_
    exact gh_ret8 rfl gd_Tape_areSigns_41 (by decide) ⟨rfl, h⟩
theorem s_Tape_areSigns {E : gh_E} {m : gh_M} {Q : Int → Prop} (d : Nat) (v0 : Int) (hF : gh_F m) (h : w_Tape_areSigns v0 m Q) : gh_C E gh_yTape_areSigns prog_10_method_2_code 3 (some .boolean) 8 (d + 0) [(0, v0)] m (fun r m1 => m1 = m ∧ Q r) := by
  refine gh_enter2 (L := [(0, 0, v0)]) (by decide +kernel) gh_rt8 (Nat.le_of_ble_eq_true rfl) rfl rfl ?_
  unfold w_Tape_areSigns at h
  refine gh_iconst gd_Tape_areSigns_0 (gh_r0 rfl) ?_
  refine gh_istore_n (L2 := [(1, 0, 0), (0, 0, v0)]) gd_Tape_areSigns_1 (by decide) rfl ?_
  refine gh_pick (L2 := [(0, 0, v0), (1, 0, 0)]) [1, 0] rfl ?_
  exact gh_L1_sound (T := fun v1 => gh_T E (gh_yTape_areSigns.cls, prog_10_method_2_code, 3, false, 8) (d + 0) 2 [(0, 0, v0), (1, 0, v1)] [] m (fun r m1 => m1 = m ∧ Q r)) (fun _ => gh_F m) (fun K2 v1 hK hF h => b_Tape_areSigns_2 d hK v1 hF h) 0 hF h
def f_Tape_signsIn_4 (v0 : Int) (Q : Int → Prop) (m : gh_M) (K4 : Int → Int → Prop) (v1 : Int) (v2 : Int) : Prop := ((v2 < 32 → ∃ J23 : Int → Prop, (∀ (v1' : Int), J23 v1' → gh_i (v2 + 8) ∧ K4 v1' (v2 + 8)) ∧ (((gh_iand_f (gh_iushr_f v0 v2) 255) = 0 → J23 v1) ∧ (¬ ((gh_iand_f (gh_iushr_f v0 v2) 255) = 0) → gh_i (v1 + 1) ∧ J23 (v1 + 1)))) ∧ (¬ (v2 < 32) → Q v1))
def w_Tape_signsIn (v0 : Int) (m : gh_M) (Q : Int → Prop) : Prop := gh_L2 (fun K4 v1 v2 => f_Tape_signsIn_4 v0 Q m K4 v1 v2) 0 0
theorem b_Tape_signsIn_4 {E : gh_E} {v0 : Int} {Q : Int → Prop} {K4 : Int → Int → Prop} (d : Nat) {m : gh_M} (hK : ∀ (v1 : Int) (v2 : Int), gh_F m → K4 v1 v2 → gh_T E (gh_yTape_signsIn.cls, prog_10_method_3_code, 3, false, 0) (d + 0) 4 [(0, 0, v0), (1, 0, v1), (2, 0, v2)] [] m (fun r m1 => m1 = m ∧ Q r)) (v1 : Int) (v2 : Int) (hF : gh_F m) (h : f_Tape_signsIn_4 v0 Q m K4 v1 v2) : gh_T E (gh_yTape_signsIn.cls, prog_10_method_3_code, 3, false, 0) (d + 0) 4 [(0, 0, v0), (1, 0, v1), (2, 0, v2)] [] m (fun r m1 => m1 = m ∧ Q r) := by
  have hK4 := hK
  unfold f_Tape_signsIn_4 at h
  refine gh_iload_n gd_Tape_signsIn_4 2 rfl ?_
  refine gh_bipush gd_Tape_signsIn_5 (by decide) (gh_r0 rfl) ?_
  obtain ⟨hA, hB⟩ := h
  refine gh_jge (tgt := 29) gd_Tape_signsIn_7 (by decide) (fun c1190 => ?_) (fun c1190 => ?_)
  · have h := hA c1190
    refine gh_iload_n gd_Tape_signsIn_10 0 rfl ?_
    refine gh_iload_n gd_Tape_signsIn_11 2 rfl ?_
    refine gh_iushr gd_Tape_signsIn_12 ?_
    refine gh_sipush gd_Tape_signsIn_13 (by decide) (gh_r0 rfl) ?_
    refine gh_iand gd_Tape_signsIn_16 ?_
    obtain ⟨J23, hJ23, h⟩ := h
    have hJ23 : ∀ (v1' : Int), gh_F m → J23 v1' → gh_T E (gh_yTape_signsIn.cls, prog_10_method_3_code, 3, false, 0) (d + 0) 23 [(0, 0, v0), (1, 0, v1'), (2, 0, v2)] [] m (fun r m1 => m1 = m ∧ Q r) := by
      intro v1' hF hj
      have h := hJ23 v1' hj
      obtain ⟨q1191, h⟩ := h
      refine gh_iinc (L2 := [(2, 0, v2 + 8), (0, 0, v0), (1, 0, v1')]) gd_Tape_signsIn_23 2 rfl q1191 (by decide) rfl ?_
      refine gh_goto (tgt := 4) gd_Tape_signsIn_26 (by decide) ?_
      refine gh_pick (L2 := [(0, 0, v0), (1, 0, v1'), (2, 0, v2 + 8)]) [1, 2, 0] rfl ?_
      exact hK4 v1' (v2 + 8) hF h
    obtain ⟨hA, hB⟩ := h
    refine gh_zeq (tgt := 23) gd_Tape_signsIn_17 (by decide) (fun c1192 => ?_) (fun c1192 => ?_)
    · have h := hA c1192
      exact hJ23 v1 hF h
    · have h := hB c1192
      obtain ⟨q1193, h⟩ := h
      refine gh_iinc (L2 := [(1, 0, v1 + 1), (0, 0, v0), (2, 0, v2)]) gd_Tape_signsIn_20 1 rfl q1193 (by decide) rfl ?_
      refine gh_pick (L2 := [(0, 0, v0), (1, 0, v1 + 1), (2, 0, v2)]) [1, 0, 2] rfl ?_
      exact hJ23 (v1 + 1) hF h
  · have h := hB c1190
    refine gh_iload_n gd_Tape_signsIn_29 1 rfl ?_
    exact gh_ret0 rfl gd_Tape_signsIn_30 ⟨rfl, h⟩
theorem s_Tape_signsIn {E : gh_E} {m : gh_M} {Q : Int → Prop} (d : Nat) (v0 : Int) (hF : gh_F m) (h : w_Tape_signsIn v0 m Q) : gh_C E gh_yTape_signsIn prog_10_method_3_code 3 (some .int) 0 (d + 0) [(0, v0)] m (fun r m1 => m1 = m ∧ Q r) := by
  refine gh_enter2 (L := [(0, 0, v0)]) (by decide +kernel) gh_rt0 (Nat.le_of_ble_eq_true rfl) rfl rfl ?_
  unfold w_Tape_signsIn at h
  refine gh_iconst gd_Tape_signsIn_0 (gh_r0 rfl) ?_
  refine gh_istore_n (L2 := [(1, 0, 0), (0, 0, v0)]) gd_Tape_signsIn_1 (by decide) rfl ?_
  refine gh_iconst gd_Tape_signsIn_2 (gh_r0 rfl) ?_
  refine gh_istore_n (L2 := [(2, 0, 0), (1, 0, 0), (0, 0, v0)]) gd_Tape_signsIn_3 (by decide) rfl ?_
  refine gh_pick (L2 := [(0, 0, v0), (1, 0, 0), (2, 0, 0)]) [2, 1, 0] rfl ?_
  exact gh_L2_sound (T := fun v1 v2 => gh_T E (gh_yTape_signsIn.cls, prog_10_method_3_code, 3, false, 0) (d + 0) 4 [(0, 0, v0), (1, 0, v1), (2, 0, v2)] [] m (fun r m1 => m1 = m ∧ Q r)) (fun _ _ => gh_F m) (fun K4 v1 v2 hK hF h => b_Tape_signsIn_4 d hK v1 v2 hF h) 0 0 hF h
def f_Tape_append_2 (v1 : Int) (Q : Int → gh_M → Prop) (K2 : Int → gh_M → Prop) (v2 : Int) (m : gh_M) : Prop := ((v2 < 32 → ∀ v3 : Int, v3 = gh_iand_f (gh_iushr_f v1 v2) 255 → ∃ J50 : gh_M → Prop, (∀ (m : gh_M), J50 m → gh_i (v2 + 8) ∧ K2 (v2 + 8) m) ∧ (((¬ (v3 = 0) ∧ ((m 3 1) < 240)) → 0 ≤ m 3 1 ∧ (m 3 1) < 240 ∧ gh_i ((m 3 1) + 1) ∧ J50 (gh_u (gh_u m 4 (m 3 1) v3) 3 1 ((m 3 1) + 1))) ∧ (¬ (¬ (v3 = 0) ∧ ((m 3 1) < 240)) → J50 m))) ∧ (¬ (v2 < 32) → Q 0 m))
def w_Tape_append (v1 : Int) (m : gh_M) (Q : Int → gh_M → Prop) : Prop := gh_M1 (fun K2 v2 m => f_Tape_append_2 v1 Q K2 v2 m) 0 m
theorem b_Tape_append_2 {E : gh_E} {v1 : Int} {Q : Int → gh_M → Prop} {K2 : Int → gh_M → Prop} (d : Nat) (hK : ∀ (v2 : Int) (m : gh_M), gh_F m → K2 v2 m → gh_T E (gh_yTape_append.cls, prog_10_method_4_code, 4, false, 9) (d + 0) 2 [(0, 2, 3), (1, 0, v1), (2, 0, v2)] [] m (fun r m1 => gh_F m1 ∧ Q r m1)) (v2 : Int) (m : gh_M) (hF : gh_F m) (h : f_Tape_append_2 v1 Q K2 v2 m) : gh_T E (gh_yTape_append.cls, prog_10_method_4_code, 4, false, 9) (d + 0) 2 [(0, 2, 3), (1, 0, v1), (2, 0, v2)] [] m (fun r m1 => gh_F m1 ∧ Q r m1) := by
  have hK2 := hK
  unfold f_Tape_append_2 at h
  refine gh_iload_n gd_Tape_append_2 2 rfl ?_
  refine gh_bipush gd_Tape_append_3 (by decide) (gh_r0 rfl) ?_
  obtain ⟨hA, hB⟩ := h
  refine gh_jge (tgt := 56) gd_Tape_append_5 (by decide) (fun c1194 => ?_) (fun c1194 => ?_)
  · have h := hA c1194
    refine gh_iload_n gd_Tape_append_8 1 rfl ?_
    refine gh_iload_n gd_Tape_append_9 2 rfl ?_
    refine gh_iushr gd_Tape_append_10 ?_
    refine gh_sipush gd_Tape_append_11 (by decide) (gh_r0 rfl) ?_
    refine gh_iand gd_Tape_append_14 ?_
    refine gh_name (fun v3 hn => ?_)
    have h := h v3 hn
    refine gh_istore_n (L2 := [(3, 0, v3), (0, 2, 3), (1, 0, v1), (2, 0, v2)]) gd_Tape_append_15 (by decide) rfl ?_
    refine gh_iload_n gd_Tape_append_16 0 rfl ?_
    obtain ⟨J50, hJ50, h⟩ := h
    have hJ50 : ∀ (m : gh_M), gh_F m → J50 m → gh_T E (gh_yTape_append.cls, prog_10_method_4_code, 4, false, 9) (d + 0) 50 [(0, 2, 3), (1, 0, v1), (2, 0, v2)] [] m (fun r m1 => gh_F m1 ∧ Q r m1) := by
      intro m hF hj
      have h := hJ50 m hj
      obtain ⟨q1195, h⟩ := h
      refine gh_iinc (L2 := [(2, 0, v2 + 8), (0, 2, 3), (1, 0, v1)]) gd_Tape_append_50 2 rfl q1195 (by decide) rfl ?_
      refine gh_goto (tgt := 2) gd_Tape_append_53 (by decide) ?_
      refine gh_pick (L2 := [(0, 2, 3), (1, 0, v1), (2, 0, v2 + 8)]) [1, 2, 0] rfl ?_
      exact hK2 (v2 + 8) m hF h
    obtain ⟨hA, hB⟩ := h
    have k1196 : (¬ (v3 = 0) ∧ ((m 3 1) < 240)) → gh_T E (gh_yTape_append.cls, prog_10_method_4_code, 4, false, 9) (d + 0) 30 [(3, 0, v3), (0, 2, 3), (1, 0, v1), (2, 0, v2)] [] m (fun r m1 => gh_F m1 ∧ Q r m1) := by
      intro c
      have h := hA c
      refine gh_aload_n gd_Tape_append_30 1 rfl (by decide) ?_
      refine gf_3_0 gd_Tape_append_31 gh_k85 hF ?_
      refine gh_aload_n gd_Tape_append_34 1 rfl (by decide) ?_
      refine gf_3_1 gd_Tape_append_35 gh_k87 hF rfl ?_
      refine gh_iload_n gd_Tape_append_38 0 rfl ?_
      obtain ⟨q1198, h⟩ := h
      obtain ⟨q1199, h⟩ := h
      refine sa_4 gd_Tape_append_39 hF q1198 q1199 (fun hF => ?_)
      refine gh_aload_n gd_Tape_append_40 1 rfl (by decide) ?_
      refine gh_dup gd_Tape_append_41 (by decide) ?_
      refine gf_3_1 gd_Tape_append_42 gh_k87 hF (gh_u_a (by decide)) ?_
      refine gh_iconst gd_Tape_append_45 (gh_r0 rfl) ?_
      obtain ⟨q1200, h⟩ := h
      refine gh_iadd gd_Tape_append_46 q1200 ?_
      refine pf_3_1 gd_Tape_append_47 gh_k87 hF (fun hF => ?_)
      refine gh_pick (L2 := [(0, 2, 3), (1, 0, v1), (2, 0, v2)]) [1, 2, 3] rfl ?_
      exact hJ50 (gh_u (gh_u m 4 (m 3 1) v3) 3 1 ((m 3 1) + 1)) hF h
    have k1197 : ¬ (¬ (v3 = 0) ∧ ((m 3 1) < 240)) → gh_T E (gh_yTape_append.cls, prog_10_method_4_code, 4, false, 9) (d + 0) 50 [(3, 0, v3), (0, 2, 3), (1, 0, v1), (2, 0, v2)] [] m (fun r m1 => gh_F m1 ∧ Q r m1) := by
      intro c
      have h := hB c
      refine gh_pick (L2 := [(0, 2, 3), (1, 0, v1), (2, 0, v2)]) [1, 2, 3] rfl ?_
      exact hJ50 m hF h
    refine gh_zeq (tgt := 50) gd_Tape_append_17 (by decide) (fun c1201 => ?_) (fun c1201 => ?_)
    · have hz : True := trivial
      exact k1197 (fun z => z.1 c1201)
    · have hz : True := trivial
      refine gh_aload_n gd_Tape_append_20 1 rfl (by decide) ?_
      refine gf_3_1 gd_Tape_append_21 gh_k87 hF rfl ?_
      refine gh_sipush gd_Tape_append_24 (by decide) (gh_r0 rfl) ?_
      refine gh_jge (tgt := 50) gd_Tape_append_27 (by decide) (fun c1202 => ?_) (fun c1202 => ?_)
      · have hz : True := trivial
        exact k1196 ⟨c1201, c1202⟩
      · have hz : True := trivial
        exact k1197 (fun z => c1202 z.2)
  · have h := hB c1194
    exact gh_ret9 rfl gd_Tape_append_56 ⟨hF, h⟩
theorem s_Tape_append {E : gh_E} {m : gh_M} {Q : Int → gh_M → Prop} (d : Nat) (v1 : Int) (hF : gh_F m) (h : w_Tape_append v1 m Q) : gh_C E gh_yTape_append prog_10_method_4_code 4 none 9 (d + 0) [(2, 3), (0, v1)] m (fun r m1 => gh_F m1 ∧ Q r m1) := by
  refine gh_enter2 (L := [(0, 2, 3), (1, 0, v1)]) (by decide +kernel) gh_rt9 (Nat.le_of_ble_eq_true rfl) rfl rfl ?_
  unfold w_Tape_append at h
  refine gh_iconst gd_Tape_append_0 (gh_r0 rfl) ?_
  refine gh_istore_n (L2 := [(2, 0, 0), (0, 2, 3), (1, 0, v1)]) gd_Tape_append_1 (by decide) rfl ?_
  refine gh_pick (L2 := [(0, 2, 3), (1, 0, v1), (2, 0, 0)]) [1, 2, 0] rfl ?_
  exact gh_M1_sound (T := fun v2 m => gh_T E (gh_yTape_append.cls, prog_10_method_4_code, 4, false, 9) (d + 0) 2 [(0, 2, 3), (1, 0, v1), (2, 0, v2)] [] m (fun r m1 => gh_F m1 ∧ Q r m1)) (fun _ m => gh_F m) (fun K2 v2 m hK hF h => b_Tape_append_2 d hK v2 m hF h) 0 m hF h
def w_House_type (v1 : Int) (v2 : Int) (v3 : Int) (v4 : Int) (v5 : Int) (m : gh_M) (Q : Int → gh_M → Prop) : Prop := w_Tape_areSigns v1 m (fun r1203 => ((r1203 = 0 → Q (-1002) m) ∧ (¬ (r1203 = 0) → w_Tape_areSigns v2 m (fun r1206 => ((r1206 = 0 → Q (-1002) m) ∧ (¬ (r1206 = 0) → w_Tape_areSigns v3 m (fun r1209 => ((r1209 = 0 → Q (-1002) m) ∧ (¬ (r1209 = 0) → w_Tape_areSigns v4 m (fun r1212 => ((r1212 = 0 → Q (-1002) m) ∧ (¬ (r1212 = 0) → w_Tape_areSigns v5 m (fun r1215 => ((r1215 = 0 → Q (-1002) m) ∧ (¬ (r1215 = 0) → w_Tape_signsIn v1 m (fun r1218 => w_Tape_signsIn v2 m (fun r1220 => gh_i (r1218 + r1220) ∧ w_Tape_signsIn v3 m (fun r1223 => gh_i ((r1218 + r1220) + r1223) ∧ w_Tape_signsIn v4 m (fun r1226 => gh_i (((r1218 + r1220) + r1223) + r1226) ∧ w_Tape_signsIn v5 m (fun r1229 => gh_i ((((r1218 + r1220) + r1223) + r1226) + r1229) ∧ ∀ v6 : Int, v6 = (((r1218 + r1220) + r1223) + r1226) + r1229 → gh_i ((m 3 1) + v6) ∧ ((((m 3 1) + v6) ≤ 240 → w_Tape_append v1 m (fun _ m1235 => w_Tape_append v2 m1235 (fun _ m1237 => w_Tape_append v3 m1237 (fun _ m1239 => w_Tape_append v4 m1239 (fun _ m1241 => w_Tape_append v5 m1241 (fun _ m1243 => Q (m1243 3 1) m1243)))))) ∧ (¬ (((m 3 1) + v6) ≤ 240) → Q (-1004) m))))))))))))))))))))))
theorem s_House_type {E : gh_E} {m : gh_M} {Q : Int → gh_M → Prop} (d : Nat) (v1 : Int) (v2 : Int) (v3 : Int) (v4 : Int) (v5 : Int) (hF : gh_F m) (h : w_House_type v1 v2 v3 v4 v5 m Q) : gh_C E gh_yHouse_type prog_1_method_2_code 7 (some .int) 0 (d + 1) [(2, 2), (0, v1), (0, v2), (0, v3), (0, v4), (0, v5)] m (fun r m1 => gh_F m1 ∧ Q r m1) := by
  refine gh_enter2 (L := [(0, 2, 2), (1, 0, v1), (2, 0, v2), (3, 0, v3), (4, 0, v4), (5, 0, v5)]) (by decide +kernel) gh_rt0 (Nat.le_of_ble_eq_true rfl) rfl rfl ?_
  unfold w_House_type at h
  refine gh_iload_n gd_House_type_0 1 rfl ?_
  refine cv_Tape_areSigns (d := d) gd_House_type_1 gh_k964 (Nat.le_of_ble_eq_true rfl) (gh_C.pw (s_Tape_areSigns d v1 hF h) (fun r1203 h => ?_))
  obtain ⟨hA, hB⟩ := h
  refine gh_zeq (tgt := 37) gd_House_type_4 (by decide) (fun c1205 => ?_) (fun c1205 => ?_)
  · have h := hA c1205
    refine gh_sipush gd_House_type_37 (by decide) (gh_r0 rfl) ?_
    exact gh_ret0 rfl gd_House_type_40 ⟨hF, h⟩
  · have h := hB c1205
    refine gh_iload_n gd_House_type_7 2 rfl ?_
    refine cv_Tape_areSigns (d := d) gd_House_type_8 gh_k964 (Nat.le_of_ble_eq_true rfl) (gh_C.pw (s_Tape_areSigns d v2 hF h) (fun r1206 h => ?_))
    obtain ⟨hA, hB⟩ := h
    refine gh_zeq (tgt := 37) gd_House_type_11 (by decide) (fun c1208 => ?_) (fun c1208 => ?_)
    · have h := hA c1208
      refine gh_sipush gd_House_type_37 (by decide) (gh_r0 rfl) ?_
      exact gh_ret0 rfl gd_House_type_40 ⟨hF, h⟩
    · have h := hB c1208
      refine gh_iload_n gd_House_type_14 3 rfl ?_
      refine cv_Tape_areSigns (d := d) gd_House_type_15 gh_k964 (Nat.le_of_ble_eq_true rfl) (gh_C.pw (s_Tape_areSigns d v3 hF h) (fun r1209 h => ?_))
      obtain ⟨hA, hB⟩ := h
      refine gh_zeq (tgt := 37) gd_House_type_18 (by decide) (fun c1211 => ?_) (fun c1211 => ?_)
      · have h := hA c1211
        refine gh_sipush gd_House_type_37 (by decide) (gh_r0 rfl) ?_
        exact gh_ret0 rfl gd_House_type_40 ⟨hF, h⟩
      · have h := hB c1211
        refine gh_iload gd_House_type_21 4 rfl ?_
        refine cv_Tape_areSigns (d := d) gd_House_type_23 gh_k964 (Nat.le_of_ble_eq_true rfl) (gh_C.pw (s_Tape_areSigns d v4 hF h) (fun r1212 h => ?_))
        obtain ⟨hA, hB⟩ := h
        refine gh_zeq (tgt := 37) gd_House_type_26 (by decide) (fun c1214 => ?_) (fun c1214 => ?_)
        · have h := hA c1214
          refine gh_sipush gd_House_type_37 (by decide) (gh_r0 rfl) ?_
          exact gh_ret0 rfl gd_House_type_40 ⟨hF, h⟩
        · have h := hB c1214
          refine gh_iload gd_House_type_29 5 rfl ?_
          refine cv_Tape_areSigns (d := d) gd_House_type_31 gh_k964 (Nat.le_of_ble_eq_true rfl) (gh_C.pw (s_Tape_areSigns d v5 hF h) (fun r1215 h => ?_))
          obtain ⟨hA, hB⟩ := h
          refine gh_zne (tgt := 41) gd_House_type_34 (by decide) (fun c1217 => ?_) (fun c1217 => ?_)
          · have h := hA c1217
            refine gh_sipush gd_House_type_37 (by decide) (gh_r0 rfl) ?_
            exact gh_ret0 rfl gd_House_type_40 ⟨hF, h⟩
          · have h := hB c1217
            refine gh_iload_n gd_House_type_41 1 rfl ?_
            refine cv_Tape_signsIn (d := d) gd_House_type_42 gh_k967 (Nat.le_of_ble_eq_true rfl) (gh_C.pw (s_Tape_signsIn d v1 hF h) (fun r1218 h => ?_))
            refine gh_iload_n gd_House_type_45 2 rfl ?_
            refine cv_Tape_signsIn (d := d) gd_House_type_46 gh_k967 (Nat.le_of_ble_eq_true rfl) (gh_C.pw (s_Tape_signsIn d v2 hF h) (fun r1220 h => ?_))
            obtain ⟨q1222, h⟩ := h
            refine gh_iadd gd_House_type_49 q1222 ?_
            refine gh_iload_n gd_House_type_50 3 rfl ?_
            refine cv_Tape_signsIn (d := d) gd_House_type_51 gh_k967 (Nat.le_of_ble_eq_true rfl) (gh_C.pw (s_Tape_signsIn d v3 hF h) (fun r1223 h => ?_))
            obtain ⟨q1225, h⟩ := h
            refine gh_iadd gd_House_type_54 q1225 ?_
            refine gh_iload gd_House_type_55 4 rfl ?_
            refine cv_Tape_signsIn (d := d) gd_House_type_57 gh_k967 (Nat.le_of_ble_eq_true rfl) (gh_C.pw (s_Tape_signsIn d v4 hF h) (fun r1226 h => ?_))
            obtain ⟨q1228, h⟩ := h
            refine gh_iadd gd_House_type_60 q1228 ?_
            refine gh_iload gd_House_type_61 5 rfl ?_
            refine cv_Tape_signsIn (d := d) gd_House_type_63 gh_k967 (Nat.le_of_ble_eq_true rfl) (gh_C.pw (s_Tape_signsIn d v5 hF h) (fun r1229 h => ?_))
            obtain ⟨q1231, h⟩ := h
            refine gh_iadd gd_House_type_66 q1231 ?_
            refine gh_name (fun v6 hn => ?_)
            have h := h v6 hn
            refine gh_istore (L2 := [(6, 0, v6), (0, 2, 2), (1, 0, v1), (2, 0, v2), (3, 0, v3), (4, 0, v4), (5, 0, v5)]) gd_House_type_67 (by decide) rfl ?_
            refine gh_aload_n gd_House_type_69 1 rfl (by decide) ?_
            refine gf_2_0 gd_House_type_70 gh_k540 hF ?_
            refine gf_3_1 gd_House_type_73 gh_k86 hF rfl ?_
            refine gh_iload gd_House_type_76 0 rfl ?_
            obtain ⟨q1232, h⟩ := h
            refine gh_iadd gd_House_type_78 q1232 ?_
            refine gh_sipush gd_House_type_79 (by decide) (gh_r0 rfl) ?_
            obtain ⟨hA, hB⟩ := h
            refine gh_jle (tgt := 89) gd_House_type_82 (by decide) (fun c1233 => ?_) (fun c1233 => ?_)
            · have h := hA c1233
              refine gh_aload_n gd_House_type_89 1 rfl (by decide) ?_
              refine gf_2_0 gd_House_type_90 gh_k540 hF ?_
              refine gh_iload_n gd_House_type_93 2 rfl ?_
              refine cv_Tape_append (d := d) gd_House_type_94 gh_k970 hF (Nat.le_of_ble_eq_true rfl) (gh_C.mono (s_Tape_append d v1 hF h) (fun r1234 m1235 hq => ?_))
              obtain ⟨hF, h⟩ := hq
              refine gh_aload_n gd_House_type_97 1 rfl (by decide) ?_
              refine gf_2_0 gd_House_type_98 gh_k540 hF ?_
              refine gh_iload_n gd_House_type_101 3 rfl ?_
              refine cv_Tape_append (d := d) gd_House_type_102 gh_k970 hF (Nat.le_of_ble_eq_true rfl) (gh_C.mono (s_Tape_append d v2 hF h) (fun r1236 m1237 hq => ?_))
              obtain ⟨hF, h⟩ := hq
              refine gh_aload_n gd_House_type_105 1 rfl (by decide) ?_
              refine gf_2_0 gd_House_type_106 gh_k540 hF ?_
              refine gh_iload_n gd_House_type_109 4 rfl ?_
              refine cv_Tape_append (d := d) gd_House_type_110 gh_k970 hF (Nat.le_of_ble_eq_true rfl) (gh_C.mono (s_Tape_append d v3 hF h) (fun r1238 m1239 hq => ?_))
              obtain ⟨hF, h⟩ := hq
              refine gh_aload_n gd_House_type_113 1 rfl (by decide) ?_
              refine gf_2_0 gd_House_type_114 gh_k540 hF ?_
              refine gh_iload gd_House_type_117 5 rfl ?_
              refine cv_Tape_append (d := d) gd_House_type_119 gh_k970 hF (Nat.le_of_ble_eq_true rfl) (gh_C.mono (s_Tape_append d v4 hF h) (fun r1240 m1241 hq => ?_))
              obtain ⟨hF, h⟩ := hq
              refine gh_aload_n gd_House_type_122 1 rfl (by decide) ?_
              refine gf_2_0 gd_House_type_123 gh_k540 hF ?_
              refine gh_iload gd_House_type_126 6 rfl ?_
              refine cv_Tape_append (d := d) gd_House_type_128 gh_k970 hF (Nat.le_of_ble_eq_true rfl) (gh_C.mono (s_Tape_append d v5 hF h) (fun r1242 m1243 hq => ?_))
              obtain ⟨hF, h⟩ := hq
              refine gh_aload_n gd_House_type_131 1 rfl (by decide) ?_
              refine gf_2_0 gd_House_type_132 gh_k540 hF ?_
              refine gf_3_1 gd_House_type_135 gh_k86 hF rfl ?_
              exact gh_ret0 rfl gd_House_type_138 ⟨hF, h⟩
            · have h := hB c1233
              refine gh_sipush gd_House_type_85 (by decide) (gh_r0 rfl) ?_
              exact gh_ret0 rfl gd_House_type_88 ⟨hF, h⟩
def w_House_next (v1 : Int) (m : gh_M) (Q : Int → gh_M → Prop) : Prop := (((m 2 10) = 0 → Q (-1003) m) ∧ (¬ ((m 2 10) = 0) → ((p_House_isPlace v1 m → w_Chart_refresh m (fun _ m1247 => 0 ≤ v1 ∧ v1 < 9 ∧ Q (m1247 35 v1) m1247)) ∧ (¬ (p_House_isPlace v1 m) → Q (-1001) m))))
theorem s_House_next {E : gh_E} {m : gh_M} {Q : Int → gh_M → Prop} (d : Nat) (v1 : Int) (hF : gh_F m) (h : w_House_next v1 m Q) : gh_C E gh_yHouse_next prog_1_method_20_code 2 (some .int) 0 (d + 6) [(2, 2), (0, v1)] m (fun r m1 => gh_F m1 ∧ Q r m1) := by
  refine gh_enter2 (L := [(0, 2, 2), (1, 0, v1)]) (by decide +kernel) gh_rt0 (Nat.le_of_ble_eq_true rfl) rfl rfl ?_
  unfold w_House_next at h
  refine gh_aload_n gd_House_next_0 0 rfl (by decide) ?_
  refine gf_2_10 gd_House_next_1 gh_k550 hF rfl ?_
  obtain ⟨hA, hB⟩ := h
  refine gh_zne (tgt := 11) gd_House_next_4 (by decide) (fun c1244 => ?_) (fun c1244 => ?_)
  · have h := hA c1244
    refine gh_sipush gd_House_next_7 (by decide) (gh_r0 rfl) ?_
    exact gh_ret0 rfl gd_House_next_10 ⟨hF, h⟩
  · have h := hB c1244
    refine gh_aload_n gd_House_next_11 0 rfl (by decide) ?_
    refine gh_iload_n gd_House_next_12 1 rfl ?_
    refine cv_House_isPlace (d := d + 5) gd_House_next_13 gh_k903 hF (Nat.le_of_ble_eq_true rfl) (gh_C.pe (e_House_isPlace (d + 5) v1 hF) ?_)
    obtain ⟨hA, hB⟩ := h
    refine gh_bne (tgt := 23) gd_House_next_16 (by decide) (fun c1245 => ?_) (fun c1245 => ?_)
    · have h := hA c1245
      refine gh_aload_n gd_House_next_23 0 rfl (by decide) ?_
      refine gf_2_5 gd_House_next_24 gh_k545 hF ?_
      refine cv_Chart_refresh (d := d + 5) gd_House_next_27 gh_k907 hF (Nat.le_of_ble_eq_true rfl) (gh_C.mono (s_Chart_refresh d hF h) (fun r1246 m1247 hq => ?_))
      obtain ⟨hF, h⟩ := hq
      refine gh_aload_n gd_House_next_30 0 rfl (by decide) ?_
      refine gf_2_5 gd_House_next_31 gh_k545 hF ?_
      refine gf_30_8 gd_House_next_34 gh_k340 hF ?_
      refine gh_iload_n gd_House_next_37 1 rfl ?_
      obtain ⟨q1248, h⟩ := h
      obtain ⟨q1249, h⟩ := h
      refine la_35 gd_House_next_38 hF q1248 q1249 rfl ?_
      exact gh_ret0 rfl gd_House_next_39 ⟨hF, h⟩
    · have h := hB c1245
      refine gh_sipush gd_House_next_19 (by decide) (gh_r0 rfl) ?_
      exact gh_ret0 rfl gd_House_next_22 ⟨hF, h⟩
def f_Wants_wantedByRow_60 (v1 : Int) (v2 : Int) (v3 : Int) (v5 : Int) (v6 : Int) (v7 : Int) (r1256 : Int) (K12 : Int → Int → Int → Prop) (m : gh_M) (K60 : Int → Int → Prop) (v4 : Int) (v9 : Int) : Prop := ∃ J111 : Int → Prop, (∀ (v4' : Int), J111 v4' → k_Grammar_partAt v1 v6 m ∧ w_Chart_beyond (x_Grammar_partAt v1 v6 m) v5 m (fun r1259 => ∃ J150 : Int → Prop, (∀ (v4'' : Int), J150 v4'' → gh_i (v6 + 1) ∧ K12 v4'' r1259 (v6 + 1)) ∧ (((gh_iand_f (gh_ishr_f r1259 v3) 1) = 0 → J150 v4') ∧ (¬ ((gh_iand_f (gh_ishr_f r1259 v3) 1) = 0) → ∀ v4'' : Int, v4'' = min v4' r1256 → J150 v4'')))) ∧ (((¬ (v9 < v3) ∨ (v7 = (-1))) → J111 v4) ∧ (¬ (¬ (v9 < v3) ∨ (v7 = (-1))) → ∃ J105 : Int → Prop, (∀ (v4' : Int), J105 v4' → gh_i (v9 + 1) ∧ K60 v4' (v9 + 1)) ∧ (((gh_iand_f (gh_ishr_f v5 v9) 1) = 0 → J105 v4) ∧ (¬ ((gh_iand_f (gh_ishr_f v5 v9) 1) = 0) → gh_i (v7 * 9) ∧ gh_i ((v7 * 9) + v9) ∧ 0 ≤ (v7 * 9) + v9 ∧ ((v7 * 9) + v9) < 72 ∧ gh_i ((m 38 ((v7 * 9) + v9)) + r1256) ∧ ∀ v4' : Int, v4' = min v4 ((m 38 ((v7 * 9) + v9)) + r1256) → J105 v4'))))
def f_Wants_wantedByRow_12 (v1 : Int) (v2 : Int) (v3 : Int) (Q : Int → Prop) (m : gh_M) (K12 : Int → Int → Int → Prop) (v4 : Int) (v5 : Int) (v6 : Int) : Prop := 0 ≤ v1 ∧ v1 < 20 ∧ (((¬ (v6 < (m 17 v1)) ∨ (v5 = 0)) → Q v4) ∧ (¬ (¬ (v6 < (m 17 v1)) ∨ (v5 = 0)) → k_Grammar_nameAt v1 v6 m ∧ ∀ v7 : Int, v7 = x_Grammar_nameAt v1 v6 m → gh_i (v6 + 1) ∧ w_Facts_leastOfRow v1 (v6 + 1) m (fun r1256 => gh_L2 (fun K60 v4 v9 => f_Wants_wantedByRow_60 v1 v2 v3 v5 v6 v7 r1256 K12 m K60 v4 v9) v4 v2)))
def w_Wants_wantedByRow (v1 : Int) (v2 : Int) (v3 : Int) (m : gh_M) (Q : Int → Prop) : Prop := ∀ v5 : Int, v5 = gh_ishl_f 1 v2 → gh_L3 (fun K12 v4 v5 v6 => f_Wants_wantedByRow_12 v1 v2 v3 Q m K12 v4 v5 v6) 16777216 v5 0
theorem b_Wants_wantedByRow_60 {E : gh_E} {v1 : Int} {v2 : Int} {v3 : Int} {v5 : Int} {v6 : Int} {v7 : Int} {r1256 : Int} {K12 : Int → Int → Int → Prop} {Q : Int → Prop} {K60 : Int → Int → Prop} (d : Nat) {m : gh_M} (hK12 : ∀ (v4 : Int) (v5 : Int) (v6 : Int), gh_F m → K12 v4 v5 v6 → gh_T E (gh_yWants_wantedByRow.cls, prog_12_method_5_code, 10, false, 0) (d + 3) 12 [(0, 2, 36), (1, 0, v1), (2, 0, v2), (3, 0, v3), (4, 0, v4), (5, 0, v5), (6, 0, v6)] [] m (fun r m1 => m1 = m ∧ Q r)) (hK : ∀ (v4 : Int) (v9 : Int), gh_F m → K60 v4 v9 → gh_T E (gh_yWants_wantedByRow.cls, prog_12_method_5_code, 10, false, 0) (d + 3) 60 [(0, 2, 36), (1, 0, v1), (2, 0, v2), (3, 0, v3), (4, 0, v4), (5, 0, v5), (6, 0, v6), (7, 0, v7), (8, 0, r1256), (9, 0, v9)] [] m (fun r m1 => m1 = m ∧ Q r)) (v4 : Int) (v9 : Int) (hF : gh_F m) (h : f_Wants_wantedByRow_60 v1 v2 v3 v5 v6 v7 r1256 K12 m K60 v4 v9) : gh_T E (gh_yWants_wantedByRow.cls, prog_12_method_5_code, 10, false, 0) (d + 3) 60 [(0, 2, 36), (1, 0, v1), (2, 0, v2), (3, 0, v3), (4, 0, v4), (5, 0, v5), (6, 0, v6), (7, 0, v7), (8, 0, r1256), (9, 0, v9)] [] m (fun r m1 => m1 = m ∧ Q r) := by
  have hK60 := hK
  unfold f_Wants_wantedByRow_60 at h
  refine gh_iload gd_Wants_wantedByRow_60 9 rfl ?_
  refine gh_iload_n gd_Wants_wantedByRow_62 3 rfl ?_
  obtain ⟨J111, hJ111, h⟩ := h
  have hJ111 : ∀ (v4' : Int), gh_F m → J111 v4' → gh_T E (gh_yWants_wantedByRow.cls, prog_12_method_5_code, 10, false, 0) (d + 3) 111 [(0, 2, 36), (1, 0, v1), (2, 0, v2), (3, 0, v3), (4, 0, v4'), (5, 0, v5), (6, 0, v6), (8, 0, r1256)] [] m (fun r m1 => m1 = m ∧ Q r) := by
    intro v4' hF hj
    have h := hJ111 v4' hj
    refine gh_aload_n gd_Wants_wantedByRow_111 0 rfl (by decide) ?_
    refine gf_36_3 gd_Wants_wantedByRow_112 gh_k369 hF ?_
    refine gh_aload_n gd_Wants_wantedByRow_115 0 rfl (by decide) ?_
    refine gf_36_0 gd_Wants_wantedByRow_116 gh_k366 hF ?_
    refine gh_iload_n gd_Wants_wantedByRow_119 1 rfl ?_
    refine gh_iload gd_Wants_wantedByRow_120 6 rfl ?_
    obtain ⟨q1258, h⟩ := h
    refine cv_Grammar_partAt (d := d + 2) gd_Wants_wantedByRow_122 gh_k1007 hF (Nat.le_of_ble_eq_true rfl) (gh_C.pe (e_Grammar_partAt (d + 2) v1 v6 hF q1258) ?_)
    refine gh_iload gd_Wants_wantedByRow_125 5 rfl ?_
    refine cv_Chart_beyond (d := d + 2) gd_Wants_wantedByRow_127 gh_k1008 hF (Nat.le_of_ble_eq_true rfl) (gh_C.pw (s_Chart_beyond (d + 1) (x_Grammar_partAt v1 v6 m) v5 hF h) (fun r1259 h => ?_))
    refine gh_istore (L2 := [(5, 0, r1259), (0, 2, 36), (1, 0, v1), (2, 0, v2), (3, 0, v3), (4, 0, v4'), (6, 0, v6), (8, 0, r1256)]) gd_Wants_wantedByRow_130 (by decide) rfl ?_
    refine gh_iload gd_Wants_wantedByRow_132 0 rfl ?_
    refine gh_iload_n gd_Wants_wantedByRow_134 4 rfl ?_
    refine gh_ishr gd_Wants_wantedByRow_135 ?_
    refine gh_iconst gd_Wants_wantedByRow_136 (gh_r0 rfl) ?_
    refine gh_iand gd_Wants_wantedByRow_137 ?_
    obtain ⟨J150, hJ150, h⟩ := h
    have hJ150 : ∀ (v4'' : Int), gh_F m → J150 v4'' → gh_T E (gh_yWants_wantedByRow.cls, prog_12_method_5_code, 10, false, 0) (d + 3) 150 [(0, 2, 36), (1, 0, v1), (2, 0, v2), (3, 0, v3), (4, 0, v4''), (5, 0, r1259), (6, 0, v6)] [] m (fun r m1 => m1 = m ∧ Q r) := by
      intro v4'' hF hj
      have h := hJ150 v4'' hj
      obtain ⟨q1261, h⟩ := h
      refine gh_iinc (L2 := [(6, 0, v6 + 1), (0, 2, 36), (1, 0, v1), (2, 0, v2), (3, 0, v3), (4, 0, v4''), (5, 0, r1259)]) gd_Wants_wantedByRow_150 6 rfl q1261 (by decide) rfl ?_
      refine gh_goto (tgt := 12) gd_Wants_wantedByRow_153 (by decide) ?_
      refine gh_pick (L2 := [(0, 2, 36), (1, 0, v1), (2, 0, v2), (3, 0, v3), (4, 0, v4''), (5, 0, r1259), (6, 0, v6 + 1)]) [1, 2, 3, 4, 5, 6, 0] rfl ?_
      exact hK12 v4'' r1259 (v6 + 1) hF h
    obtain ⟨hA, hB⟩ := h
    refine gh_zeq (tgt := 150) gd_Wants_wantedByRow_138 (by decide) (fun c1262 => ?_) (fun c1262 => ?_)
    · have h := hA c1262
      refine gh_pick (L2 := [(0, 2, 36), (1, 0, v1), (2, 0, v2), (3, 0, v3), (4, 0, v4'), (5, 0, r1259), (6, 0, v6)]) [1, 2, 3, 4, 5, 0, 6] rfl ?_
      exact hJ150 v4' hF h
    · have h := hB c1262
      refine gh_iload gd_Wants_wantedByRow_141 5 rfl ?_
      refine gh_iload gd_Wants_wantedByRow_143 7 rfl ?_
      refine gh_pr_min gd_Wants_wantedByRow_145 gh_k831 (Nat.le_of_ble_eq_true rfl) ?_
      refine gh_name (fun v4'' hn => ?_)
      have h := h v4'' hn
      refine gh_istore (L2 := [(4, 0, v4''), (5, 0, r1259), (0, 2, 36), (1, 0, v1), (2, 0, v2), (3, 0, v3), (6, 0, v6), (8, 0, r1256)]) gd_Wants_wantedByRow_148 (by decide) rfl ?_
      refine gh_pick (L2 := [(0, 2, 36), (1, 0, v1), (2, 0, v2), (3, 0, v3), (4, 0, v4''), (5, 0, r1259), (6, 0, v6)]) [2, 3, 4, 5, 0, 1, 6] rfl ?_
      exact hJ150 v4'' hF h
  obtain ⟨hA, hB⟩ := h
  have k1263 : (¬ (v9 < v3) ∨ (v7 = (-1))) → gh_T E (gh_yWants_wantedByRow.cls, prog_12_method_5_code, 10, false, 0) (d + 3) 111 [(0, 2, 36), (1, 0, v1), (2, 0, v2), (3, 0, v3), (4, 0, v4), (5, 0, v5), (6, 0, v6), (7, 0, v7), (8, 0, r1256), (9, 0, v9)] [] m (fun r m1 => m1 = m ∧ Q r) := by
    intro c
    have h := hA c
    refine gh_pick (L2 := [(0, 2, 36), (1, 0, v1), (2, 0, v2), (3, 0, v3), (4, 0, v4), (5, 0, v5), (6, 0, v6), (8, 0, r1256)]) [0, 1, 2, 3, 4, 5, 6, 8] rfl ?_
    exact hJ111 v4 hF h
  have k1264 : ¬ (¬ (v9 < v3) ∨ (v7 = (-1))) → gh_T E (gh_yWants_wantedByRow.cls, prog_12_method_5_code, 10, false, 0) (d + 3) 72 [(0, 2, 36), (1, 0, v1), (2, 0, v2), (3, 0, v3), (4, 0, v4), (5, 0, v5), (6, 0, v6), (7, 0, v7), (8, 0, r1256), (9, 0, v9)] [] m (fun r m1 => m1 = m ∧ Q r) := by
    intro c
    have h := hB c
    refine gh_iload gd_Wants_wantedByRow_72 5 rfl ?_
    refine gh_iload gd_Wants_wantedByRow_74 9 rfl ?_
    refine gh_ishr gd_Wants_wantedByRow_76 ?_
    refine gh_iconst gd_Wants_wantedByRow_77 (gh_r0 rfl) ?_
    refine gh_iand gd_Wants_wantedByRow_78 ?_
    obtain ⟨J105, hJ105, h⟩ := h
    have hJ105 : ∀ (v4' : Int), gh_F m → J105 v4' → gh_T E (gh_yWants_wantedByRow.cls, prog_12_method_5_code, 10, false, 0) (d + 3) 105 [(0, 2, 36), (1, 0, v1), (2, 0, v2), (3, 0, v3), (4, 0, v4'), (5, 0, v5), (6, 0, v6), (7, 0, v7), (8, 0, r1256), (9, 0, v9)] [] m (fun r m1 => m1 = m ∧ Q r) := by
      intro v4' hF hj
      have h := hJ105 v4' hj
      obtain ⟨q1265, h⟩ := h
      refine gh_iinc (L2 := [(9, 0, v9 + 1), (0, 2, 36), (1, 0, v1), (2, 0, v2), (3, 0, v3), (4, 0, v4'), (5, 0, v5), (6, 0, v6), (7, 0, v7), (8, 0, r1256)]) gd_Wants_wantedByRow_105 9 rfl q1265 (by decide) rfl ?_
      refine gh_goto (tgt := 60) gd_Wants_wantedByRow_108 (by decide) ?_
      refine gh_pick (L2 := [(0, 2, 36), (1, 0, v1), (2, 0, v2), (3, 0, v3), (4, 0, v4'), (5, 0, v5), (6, 0, v6), (7, 0, v7), (8, 0, r1256), (9, 0, v9 + 1)]) [1, 2, 3, 4, 5, 6, 7, 8, 9, 0] rfl ?_
      exact hK60 v4' (v9 + 1) hF h
    obtain ⟨hA, hB⟩ := h
    refine gh_zeq (tgt := 105) gd_Wants_wantedByRow_79 (by decide) (fun c1266 => ?_) (fun c1266 => ?_)
    · have h := hA c1266
      exact hJ105 v4 hF h
    · have h := hB c1266
      refine gh_iload gd_Wants_wantedByRow_82 4 rfl ?_
      refine gh_aload_n gd_Wants_wantedByRow_84 0 rfl (by decide) ?_
      refine gf_36_6 gd_Wants_wantedByRow_85 gh_k372 hF ?_
      refine gh_iload gd_Wants_wantedByRow_88 7 rfl ?_
      refine gh_bipush gd_Wants_wantedByRow_90 (by decide) (gh_r0 rfl) ?_
      obtain ⟨q1267, h⟩ := h
      refine gh_imul gd_Wants_wantedByRow_92 q1267 ?_
      refine gh_iload gd_Wants_wantedByRow_93 9 rfl ?_
      obtain ⟨q1268, h⟩ := h
      refine gh_iadd gd_Wants_wantedByRow_95 q1268 ?_
      obtain ⟨q1269, h⟩ := h
      obtain ⟨q1270, h⟩ := h
      refine la_38 gd_Wants_wantedByRow_96 hF q1269 q1270 rfl ?_
      refine gh_iload gd_Wants_wantedByRow_97 8 rfl ?_
      obtain ⟨q1271, h⟩ := h
      refine gh_iadd gd_Wants_wantedByRow_99 q1271 ?_
      refine gh_pr_min gd_Wants_wantedByRow_100 gh_k831 (Nat.le_of_ble_eq_true rfl) ?_
      refine gh_name (fun v4' hn => ?_)
      have h := h v4' hn
      refine gh_istore (L2 := [(4, 0, v4'), (0, 2, 36), (1, 0, v1), (2, 0, v2), (3, 0, v3), (5, 0, v5), (6, 0, v6), (7, 0, v7), (8, 0, r1256), (9, 0, v9)]) gd_Wants_wantedByRow_103 (by decide) rfl ?_
      refine gh_pick (L2 := [(0, 2, 36), (1, 0, v1), (2, 0, v2), (3, 0, v3), (4, 0, v4'), (5, 0, v5), (6, 0, v6), (7, 0, v7), (8, 0, r1256), (9, 0, v9)]) [1, 2, 3, 4, 0, 5, 6, 7, 8, 9] rfl ?_
      exact hJ105 v4' hF h
  refine gh_jge (tgt := 111) gd_Wants_wantedByRow_63 (by decide) (fun c1272 => ?_) (fun c1272 => ?_)
  · have hz : True := trivial
    refine gh_iload gd_Wants_wantedByRow_66 7 rfl ?_
    refine gh_iconst gd_Wants_wantedByRow_68 (gh_r0 rfl) ?_
    refine gh_jeq (tgt := 111) gd_Wants_wantedByRow_69 (by decide) (fun c1273 => ?_) (fun c1273 => ?_)
    · have hz : True := trivial
      exact k1263 (Or.inr c1273)
    · have hz : True := trivial
      exact k1264 (fun z => z.elim (fun w => w c1272) c1273)
  · have hz : True := trivial
    exact k1263 (Or.inl c1272)
theorem b_Wants_wantedByRow_12 {E : gh_E} {v1 : Int} {v2 : Int} {v3 : Int} {Q : Int → Prop} {K12 : Int → Int → Int → Prop} (d : Nat) {m : gh_M} (hK : ∀ (v4 : Int) (v5 : Int) (v6 : Int), gh_F m → K12 v4 v5 v6 → gh_T E (gh_yWants_wantedByRow.cls, prog_12_method_5_code, 10, false, 0) (d + 3) 12 [(0, 2, 36), (1, 0, v1), (2, 0, v2), (3, 0, v3), (4, 0, v4), (5, 0, v5), (6, 0, v6)] [] m (fun r m1 => m1 = m ∧ Q r)) (v4 : Int) (v5 : Int) (v6 : Int) (hF : gh_F m) (h : f_Wants_wantedByRow_12 v1 v2 v3 Q m K12 v4 v5 v6) : gh_T E (gh_yWants_wantedByRow.cls, prog_12_method_5_code, 10, false, 0) (d + 3) 12 [(0, 2, 36), (1, 0, v1), (2, 0, v2), (3, 0, v3), (4, 0, v4), (5, 0, v5), (6, 0, v6)] [] m (fun r m1 => m1 = m ∧ Q r) := by
  have hK12 := hK
  unfold f_Wants_wantedByRow_12 at h
  refine gh_iload gd_Wants_wantedByRow_12 6 rfl ?_
  refine gh_aload_n gd_Wants_wantedByRow_14 0 rfl (by decide) ?_
  refine gf_36_0 gd_Wants_wantedByRow_15 gh_k366 hF ?_
  refine gf_13_6 gd_Wants_wantedByRow_18 gh_k206 hF ?_
  refine gh_iload_n gd_Wants_wantedByRow_21 1 rfl ?_
  obtain ⟨q1250, h⟩ := h
  obtain ⟨q1251, h⟩ := h
  refine la_17 gd_Wants_wantedByRow_22 hF q1250 q1251 rfl ?_
  obtain ⟨hA, hB⟩ := h
  have k1252 : (¬ (v6 < (m 17 v1)) ∨ (v5 = 0)) → gh_T E (gh_yWants_wantedByRow.cls, prog_12_method_5_code, 10, false, 0) (d + 3) 156 [(0, 2, 36), (1, 0, v1), (2, 0, v2), (3, 0, v3), (4, 0, v4), (5, 0, v5), (6, 0, v6)] [] m (fun r m1 => m1 = m ∧ Q r) := by
    intro c
    have h := hA c
    refine gh_iload gd_Wants_wantedByRow_156 4 rfl ?_
    exact gh_ret0 rfl gd_Wants_wantedByRow_158 ⟨rfl, h⟩
  have k1253 : ¬ (¬ (v6 < (m 17 v1)) ∨ (v5 = 0)) → gh_T E (gh_yWants_wantedByRow.cls, prog_12_method_5_code, 10, false, 0) (d + 3) 31 [(0, 2, 36), (1, 0, v1), (2, 0, v2), (3, 0, v3), (4, 0, v4), (5, 0, v5), (6, 0, v6)] [] m (fun r m1 => m1 = m ∧ Q r) := by
    intro c
    have h := hB c
    refine gh_aload_n gd_Wants_wantedByRow_31 0 rfl (by decide) ?_
    refine gf_36_0 gd_Wants_wantedByRow_32 gh_k366 hF ?_
    refine gh_iload_n gd_Wants_wantedByRow_35 1 rfl ?_
    refine gh_iload gd_Wants_wantedByRow_36 6 rfl ?_
    obtain ⟨q1254, h⟩ := h
    refine cv_Grammar_nameAt (d := d + 2) gd_Wants_wantedByRow_38 gh_k1005 hF (Nat.le_of_ble_eq_true rfl) (gh_C.pe (e_Grammar_nameAt (d + 1) v1 v6 hF q1254) ?_)
    refine gh_name (fun v7 hn => ?_)
    have h := h v7 hn
    refine gh_istore (L2 := [(7, 0, v7), (0, 2, 36), (1, 0, v1), (2, 0, v2), (3, 0, v3), (4, 0, v4), (5, 0, v5), (6, 0, v6)]) gd_Wants_wantedByRow_41 (by decide) rfl ?_
    refine gh_aload_n gd_Wants_wantedByRow_43 1 rfl (by decide) ?_
    refine gf_36_1 gd_Wants_wantedByRow_44 gh_k367 hF ?_
    refine gh_iload_n gd_Wants_wantedByRow_47 2 rfl ?_
    refine gh_iload gd_Wants_wantedByRow_48 7 rfl ?_
    refine gh_iconst gd_Wants_wantedByRow_50 (gh_r0 rfl) ?_
    obtain ⟨q1255, h⟩ := h
    refine gh_iadd gd_Wants_wantedByRow_51 q1255 ?_
    refine cv_Facts_leastOfRow (d := d + 2) gd_Wants_wantedByRow_52 gh_k1006 hF (Nat.le_of_ble_eq_true rfl) (gh_C.pw (s_Facts_leastOfRow d v1 (v6 + 1) hF h) (fun r1256 h => ?_))
    refine gh_istore (L2 := [(8, 0, r1256), (7, 0, v7), (0, 2, 36), (1, 0, v1), (2, 0, v2), (3, 0, v3), (4, 0, v4), (5, 0, v5), (6, 0, v6)]) gd_Wants_wantedByRow_55 (by decide) rfl ?_
    refine gh_iload_n gd_Wants_wantedByRow_57 4 rfl ?_
    refine gh_istore (L2 := [(9, 0, v2), (8, 0, r1256), (7, 0, v7), (0, 2, 36), (1, 0, v1), (2, 0, v2), (3, 0, v3), (4, 0, v4), (5, 0, v5), (6, 0, v6)]) gd_Wants_wantedByRow_58 (by decide) rfl ?_
    refine gh_pick (L2 := [(0, 2, 36), (1, 0, v1), (2, 0, v2), (3, 0, v3), (4, 0, v4), (5, 0, v5), (6, 0, v6), (7, 0, v7), (8, 0, r1256), (9, 0, v2)]) [3, 4, 5, 6, 7, 8, 9, 2, 1, 0] rfl ?_
    exact gh_L2_sound (T := fun v4 v9 => gh_T E (gh_yWants_wantedByRow.cls, prog_12_method_5_code, 10, false, 0) (d + 3) 60 [(0, 2, 36), (1, 0, v1), (2, 0, v2), (3, 0, v3), (4, 0, v4), (5, 0, v5), (6, 0, v6), (7, 0, v7), (8, 0, r1256), (9, 0, v9)] [] m (fun r m1 => m1 = m ∧ Q r)) (fun _ _ => gh_F m) (fun K60 v4 v9 hK hF h => b_Wants_wantedByRow_60 d hK12 hK v4 v9 hF h) v4 v2 hF h
  refine gh_jge (tgt := 156) gd_Wants_wantedByRow_23 (by decide) (fun c1274 => ?_) (fun c1274 => ?_)
  · have hz : True := trivial
    refine gh_iload gd_Wants_wantedByRow_26 5 rfl ?_
    refine gh_zeq (tgt := 156) gd_Wants_wantedByRow_28 (by decide) (fun c1275 => ?_) (fun c1275 => ?_)
    · have hz : True := trivial
      exact k1252 (Or.inr c1275)
    · have hz : True := trivial
      exact k1253 (fun z => z.elim (fun w => w c1274) c1275)
  · have hz : True := trivial
    exact k1252 (Or.inl c1274)
theorem s_Wants_wantedByRow {E : gh_E} {m : gh_M} {Q : Int → Prop} (d : Nat) (v1 : Int) (v2 : Int) (v3 : Int) (hF : gh_F m) (h : w_Wants_wantedByRow v1 v2 v3 m Q) : gh_C E gh_yWants_wantedByRow prog_12_method_5_code 10 (some .int) 0 (d + 3) [(2, 36), (0, v1), (0, v2), (0, v3)] m (fun r m1 => m1 = m ∧ Q r) := by
  refine gh_enter2 (L := [(0, 2, 36), (1, 0, v1), (2, 0, v2), (3, 0, v3)]) (by decide +kernel) gh_rt0 (Nat.le_of_ble_eq_true rfl) rfl rfl ?_
  unfold w_Wants_wantedByRow at h
  refine gh_ldc (n := 16777216) gd_Wants_wantedByRow_0 gh_k999 (by decide) (gh_r0 rfl) ?_
  refine gh_istore (L2 := [(4, 0, 16777216), (0, 2, 36), (1, 0, v1), (2, 0, v2), (3, 0, v3)]) gd_Wants_wantedByRow_2 (by decide) rfl ?_
  refine gh_iconst gd_Wants_wantedByRow_4 (gh_r0 rfl) ?_
  refine gh_iload_n gd_Wants_wantedByRow_5 3 rfl ?_
  refine gh_ishl gd_Wants_wantedByRow_6 ?_
  refine gh_name (fun v5 hn => ?_)
  have h := h v5 hn
  refine gh_istore (L2 := [(5, 0, v5), (4, 0, 16777216), (0, 2, 36), (1, 0, v1), (2, 0, v2), (3, 0, v3)]) gd_Wants_wantedByRow_7 (by decide) rfl ?_
  refine gh_iconst gd_Wants_wantedByRow_9 (gh_r0 rfl) ?_
  refine gh_istore (L2 := [(6, 0, 0), (5, 0, v5), (4, 0, 16777216), (0, 2, 36), (1, 0, v1), (2, 0, v2), (3, 0, v3)]) gd_Wants_wantedByRow_10 (by decide) rfl ?_
  refine gh_pick (L2 := [(0, 2, 36), (1, 0, v1), (2, 0, v2), (3, 0, v3), (4, 0, 16777216), (5, 0, v5), (6, 0, 0)]) [3, 4, 5, 6, 2, 1, 0] rfl ?_
  exact gh_L3_sound (T := fun v4 v5 v6 => gh_T E (gh_yWants_wantedByRow.cls, prog_12_method_5_code, 10, false, 0) (d + 3) 12 [(0, 2, 36), (1, 0, v1), (2, 0, v2), (3, 0, v3), (4, 0, v4), (5, 0, v5), (6, 0, v6)] [] m (fun r m1 => m1 = m ∧ Q r)) (fun _ _ _ => gh_F m) (fun K12 v4 v5 v6 hK hF h => b_Wants_wantedByRow_12 d hK v4 v5 v6 hF h) 16777216 v5 0 hF h
def f_Wants_findWanted_72 (v1 : Int) (v2 : Int) (v3 : Int) (K58 : Int → gh_M → Prop) (K72 : Int → gh_M → Prop) (v4 : Int) (m : gh_M) : Prop := ((v4 < (m 13 2) → 0 ≤ v4 ∧ v4 < 20 ∧ gh_i ((m 16 v4) * 9) ∧ gh_i (((m 16 v4) * 9) + v2) ∧ ∀ v5 : Int, v5 = ((m 16 v4) * 9) + v2 → 0 ≤ v5 ∧ v5 < 72 ∧ w_Wants_wantedByRow v4 v2 v1 m (fun r1297 => 0 ≤ v5 ∧ v5 < 72 ∧ gh_i (v4 + 1) ∧ K72 (v4 + 1) (gh_u m 38 v5 (min (m 38 v5) r1297)))) ∧ (¬ (v4 < (m 13 2)) → gh_i (v3 + 1) ∧ K58 (v3 + 1) m))
def f_Wants_findWanted_58 (v1 : Int) (v2 : Int) (K52 : Int → gh_M → Prop) (K58 : Int → gh_M → Prop) (v3 : Int) (m : gh_M) : Prop := ((v3 < (m 13 1) → gh_M1 (fun K72 v4 m => f_Wants_findWanted_72 v1 v2 v3 K58 K72 v4 m) 0 m) ∧ (¬ (v3 < (m 13 1)) → gh_i (v2 + (-1)) ∧ K52 (v2 + (-1)) m))
def f_Wants_findWanted_52 (v1 : Int) (Q : Int → gh_M → Prop) (K52 : Int → gh_M → Prop) (v2 : Int) (m : gh_M) : Prop := ((v2 < 0 → Q (if (m 38 0) < 16777216 then (m 38 0) else (-1)) m) ∧ (¬ (v2 < 0) → gh_M1 (fun K58 v3 m => f_Wants_findWanted_58 v1 v2 K52 K58 v3 m) 0 m))
def f_Wants_findWanted_11 (v1 : Int) (Q : Int → gh_M → Prop) (K11 : Int → gh_M → Prop) (v2 : Int) (m : gh_M) : Prop := ((v2 < (m 13 1) → gh_i (v2 * 9) ∧ gh_i ((v2 * 9) + v1) ∧ 0 ≤ v2 ∧ v2 < 8 ∧ 0 ≤ (v2 * 9) + v1 ∧ ((v2 * 9) + v1) < 72 ∧ gh_i (v2 + 1) ∧ K11 (v2 + 1) (gh_u m 38 ((v2 * 9) + v1) (m 21 v2))) ∧ (¬ (v2 < (m 13 1)) → gh_i (v1 - 1) ∧ ∀ v2' : Int, v2' = v1 - 1 → gh_M1 (fun K52 v2 m => f_Wants_findWanted_52 v1 Q K52 v2 m) v2' m))
def w_Wants_findWanted (v1 : Int) (m : gh_M) (Q : Int → gh_M → Prop) : Prop := gh_M1 (fun K11 v2 m => f_Wants_findWanted_11 v1 Q K11 v2 m) 0 (gh_fil m 38 72 16777216)
theorem b_Wants_findWanted_72 {E : gh_E} {v1 : Int} {v2 : Int} {v3 : Int} {K58 : Int → gh_M → Prop} {Q : Int → gh_M → Prop} {K72 : Int → gh_M → Prop} (d : Nat) (hK58 : ∀ (v3 : Int) (m : gh_M), gh_F m → K58 v3 m → gh_T E (gh_yWants_findWanted.cls, prog_12_method_4_code, 6, false, 0) (d + 4) 58 [(0, 2, 36), (1, 0, v1), (2, 0, v2), (3, 0, v3)] [] m (fun r m1 => gh_F m1 ∧ Q r m1)) (hK : ∀ (v4 : Int) (m : gh_M), gh_F m → K72 v4 m → gh_T E (gh_yWants_findWanted.cls, prog_12_method_4_code, 6, false, 0) (d + 4) 72 [(0, 2, 36), (1, 0, v1), (2, 0, v2), (3, 0, v3), (4, 0, v4)] [] m (fun r m1 => gh_F m1 ∧ Q r m1)) (v4 : Int) (m : gh_M) (hF : gh_F m) (h : f_Wants_findWanted_72 v1 v2 v3 K58 K72 v4 m) : gh_T E (gh_yWants_findWanted.cls, prog_12_method_4_code, 6, false, 0) (d + 4) 72 [(0, 2, 36), (1, 0, v1), (2, 0, v2), (3, 0, v3), (4, 0, v4)] [] m (fun r m1 => gh_F m1 ∧ Q r m1) := by
  have hK72 := hK
  unfold f_Wants_findWanted_72 at h
  refine gh_iload gd_Wants_findWanted_72 4 rfl ?_
  refine gh_aload_n gd_Wants_findWanted_74 0 rfl (by decide) ?_
  refine gf_36_0 gd_Wants_findWanted_75 gh_k366 hF ?_
  refine gf_13_2 gd_Wants_findWanted_78 gh_k188 hF rfl ?_
  obtain ⟨hA, hB⟩ := h
  refine gh_jge (tgt := 132) gd_Wants_findWanted_81 (by decide) (fun c1290 => ?_) (fun c1290 => ?_)
  · have h := hA c1290
    refine gh_aload_n gd_Wants_findWanted_84 0 rfl (by decide) ?_
    refine gf_36_0 gd_Wants_findWanted_85 gh_k366 hF ?_
    refine gf_13_5 gd_Wants_findWanted_88 gh_k201 hF ?_
    refine gh_iload gd_Wants_findWanted_91 4 rfl ?_
    obtain ⟨q1291, h⟩ := h
    obtain ⟨q1292, h⟩ := h
    refine la_16 gd_Wants_findWanted_93 hF q1291 q1292 rfl ?_
    refine gh_bipush gd_Wants_findWanted_94 (by decide) (gh_r0 rfl) ?_
    obtain ⟨q1293, h⟩ := h
    refine gh_imul gd_Wants_findWanted_96 q1293 ?_
    refine gh_iload_n gd_Wants_findWanted_97 2 rfl ?_
    obtain ⟨q1294, h⟩ := h
    refine gh_iadd gd_Wants_findWanted_98 q1294 ?_
    refine gh_name (fun v5 hn => ?_)
    have h := h v5 hn
    refine gh_istore (L2 := [(5, 0, v5), (0, 2, 36), (1, 0, v1), (2, 0, v2), (3, 0, v3), (4, 0, v4)]) gd_Wants_findWanted_99 (by decide) rfl ?_
    refine gh_aload_n gd_Wants_findWanted_101 1 rfl (by decide) ?_
    refine gf_36_6 gd_Wants_findWanted_102 gh_k372 hF ?_
    refine gh_iload gd_Wants_findWanted_105 0 rfl ?_
    refine gh_aload_n gd_Wants_findWanted_107 1 rfl (by decide) ?_
    refine gf_36_6 gd_Wants_findWanted_108 gh_k372 hF ?_
    refine gh_iload gd_Wants_findWanted_111 0 rfl ?_
    obtain ⟨q1295, h⟩ := h
    obtain ⟨q1296, h⟩ := h
    refine la_38 gd_Wants_findWanted_113 hF q1295 q1296 rfl ?_
    refine gh_aload_n gd_Wants_findWanted_114 1 rfl (by decide) ?_
    refine gh_iload gd_Wants_findWanted_115 5 rfl ?_
    refine gh_iload_n gd_Wants_findWanted_117 3 rfl ?_
    refine gh_iload_n gd_Wants_findWanted_118 2 rfl ?_
    refine cv_Wants_wantedByRow (d := d + 3) gd_Wants_findWanted_119 gh_k1001 hF (Nat.le_of_ble_eq_true rfl) (gh_C.pw (s_Wants_wantedByRow d v4 v2 v1 hF h) (fun r1297 h => ?_))
    refine gh_pr_min gd_Wants_findWanted_122 gh_k831 (Nat.le_of_ble_eq_true rfl) ?_
    obtain ⟨q1299, h⟩ := h
    obtain ⟨q1300, h⟩ := h
    refine sa_38 gd_Wants_findWanted_125 hF q1299 q1300 (fun hF => ?_)
    obtain ⟨q1301, h⟩ := h
    refine gh_iinc (L2 := [(4, 0, v4 + 1), (5, 0, v5), (0, 2, 36), (1, 0, v1), (2, 0, v2), (3, 0, v3)]) gd_Wants_findWanted_126 5 rfl q1301 (by decide) rfl ?_
    refine gh_goto (tgt := 72) gd_Wants_findWanted_129 (by decide) ?_
    refine gh_pick (L2 := [(0, 2, 36), (1, 0, v1), (2, 0, v2), (3, 0, v3), (4, 0, v4 + 1)]) [2, 3, 4, 5, 0] rfl ?_
    exact hK72 (v4 + 1) (gh_u m 38 v5 (min (m 38 v5) r1297)) hF h
  · have h := hB c1290
    obtain ⟨q1302, h⟩ := h
    refine gh_iinc (L2 := [(3, 0, v3 + 1), (0, 2, 36), (1, 0, v1), (2, 0, v2), (4, 0, v4)]) gd_Wants_findWanted_132 3 rfl q1302 (by decide) rfl ?_
    refine gh_goto (tgt := 58) gd_Wants_findWanted_135 (by decide) ?_
    refine gh_pick (L2 := [(0, 2, 36), (1, 0, v1), (2, 0, v2), (3, 0, v3 + 1)]) [1, 2, 3, 0] rfl ?_
    exact hK58 (v3 + 1) m hF h
theorem b_Wants_findWanted_58 {E : gh_E} {v1 : Int} {v2 : Int} {K52 : Int → gh_M → Prop} {Q : Int → gh_M → Prop} {K58 : Int → gh_M → Prop} (d : Nat) (hK52 : ∀ (v2 : Int) (m : gh_M), gh_F m → K52 v2 m → gh_T E (gh_yWants_findWanted.cls, prog_12_method_4_code, 6, false, 0) (d + 4) 52 [(0, 2, 36), (1, 0, v1), (2, 0, v2)] [] m (fun r m1 => gh_F m1 ∧ Q r m1)) (hK : ∀ (v3 : Int) (m : gh_M), gh_F m → K58 v3 m → gh_T E (gh_yWants_findWanted.cls, prog_12_method_4_code, 6, false, 0) (d + 4) 58 [(0, 2, 36), (1, 0, v1), (2, 0, v2), (3, 0, v3)] [] m (fun r m1 => gh_F m1 ∧ Q r m1)) (v3 : Int) (m : gh_M) (hF : gh_F m) (h : f_Wants_findWanted_58 v1 v2 K52 K58 v3 m) : gh_T E (gh_yWants_findWanted.cls, prog_12_method_4_code, 6, false, 0) (d + 4) 58 [(0, 2, 36), (1, 0, v1), (2, 0, v2), (3, 0, v3)] [] m (fun r m1 => gh_F m1 ∧ Q r m1) := by
  have hK58 := hK
  unfold f_Wants_findWanted_58 at h
  refine gh_iload_n gd_Wants_findWanted_58 3 rfl ?_
  refine gh_aload_n gd_Wants_findWanted_59 0 rfl (by decide) ?_
  refine gf_36_0 gd_Wants_findWanted_60 gh_k366 hF ?_
  refine gf_13_1 gd_Wants_findWanted_63 gh_k183 hF rfl ?_
  obtain ⟨hA, hB⟩ := h
  refine gh_jge (tgt := 138) gd_Wants_findWanted_66 (by decide) (fun c1289 => ?_) (fun c1289 => ?_)
  · have h := hA c1289
    refine gh_iconst gd_Wants_findWanted_69 (gh_r0 rfl) ?_
    refine gh_istore (L2 := [(4, 0, 0), (0, 2, 36), (1, 0, v1), (2, 0, v2), (3, 0, v3)]) gd_Wants_findWanted_70 (by decide) rfl ?_
    refine gh_pick (L2 := [(0, 2, 36), (1, 0, v1), (2, 0, v2), (3, 0, v3), (4, 0, 0)]) [1, 2, 3, 4, 0] rfl ?_
    exact gh_M1_sound (T := fun v4 m => gh_T E (gh_yWants_findWanted.cls, prog_12_method_4_code, 6, false, 0) (d + 4) 72 [(0, 2, 36), (1, 0, v1), (2, 0, v2), (3, 0, v3), (4, 0, v4)] [] m (fun r m1 => gh_F m1 ∧ Q r m1)) (fun _ m => gh_F m) (fun K72 v4 m hK hF h => b_Wants_findWanted_72 d hK58 hK v4 m hF h) 0 m hF h
  · have h := hB c1289
    obtain ⟨q1303, h⟩ := h
    refine gh_iinc (L2 := [(2, 0, v2 + (-1)), (0, 2, 36), (1, 0, v1), (3, 0, v3)]) gd_Wants_findWanted_138 2 rfl q1303 (by decide) rfl ?_
    refine gh_goto (tgt := 52) gd_Wants_findWanted_141 (by decide) ?_
    refine gh_pick (L2 := [(0, 2, 36), (1, 0, v1), (2, 0, v2 + (-1))]) [1, 2, 0] rfl ?_
    exact hK52 (v2 + (-1)) m hF h
theorem b_Wants_findWanted_52 {E : gh_E} {v1 : Int} {Q : Int → gh_M → Prop} {K52 : Int → gh_M → Prop} (d : Nat) (hK : ∀ (v2 : Int) (m : gh_M), gh_F m → K52 v2 m → gh_T E (gh_yWants_findWanted.cls, prog_12_method_4_code, 6, false, 0) (d + 4) 52 [(0, 2, 36), (1, 0, v1), (2, 0, v2)] [] m (fun r m1 => gh_F m1 ∧ Q r m1)) (v2 : Int) (m : gh_M) (hF : gh_F m) (h : f_Wants_findWanted_52 v1 Q K52 v2 m) : gh_T E (gh_yWants_findWanted.cls, prog_12_method_4_code, 6, false, 0) (d + 4) 52 [(0, 2, 36), (1, 0, v1), (2, 0, v2)] [] m (fun r m1 => gh_F m1 ∧ Q r m1) := by
  have hK52 := hK
  unfold f_Wants_findWanted_52 at h
  refine gh_iload_n gd_Wants_findWanted_52 2 rfl ?_
  obtain ⟨hA, hB⟩ := h
  refine gh_zlt (tgt := 144) gd_Wants_findWanted_53 (by decide) (fun c1285 => ?_) (fun c1285 => ?_)
  · have h := hA c1285
    refine gh_aload_n gd_Wants_findWanted_144 0 rfl (by decide) ?_
    refine gf_36_6 gd_Wants_findWanted_145 gh_k372 hF ?_
    refine gh_iconst gd_Wants_findWanted_148 (gh_r0 rfl) ?_
    refine la_38 gd_Wants_findWanted_149 hF (by decide) (by decide) rfl ?_
    refine gh_ldc (n := 16777216) gd_Wants_findWanted_150 gh_k999 (by decide) (gh_r0 rfl) ?_
    have k1286 : ∀ x1287 : Int, x1287 = (if (m 38 0) < 16777216 then (m 38 0) else (-1)) → gh_T E (gh_yWants_findWanted.cls, prog_12_method_4_code, 6, false, 0) (d + 4) 165 [(0, 2, 36), (1, 0, v1), (2, 0, v2)] [(0, x1287)] m (fun r m1 => gh_F m1 ∧ Q r m1) := by
      rintro _ rfl
      exact gh_ret0 rfl gd_Wants_findWanted_165 ⟨hF, h⟩
    refine gh_jge (tgt := 164) gd_Wants_findWanted_152 (by decide) (fun c1288 => ?_) (fun c1288 => ?_)
    · have hz : True := trivial
      refine gh_aload_n gd_Wants_findWanted_155 0 rfl (by decide) ?_
      refine gf_36_6 gd_Wants_findWanted_156 gh_k372 hF ?_
      refine gh_iconst gd_Wants_findWanted_159 (gh_r0 rfl) ?_
      refine la_38 gd_Wants_findWanted_160 hF (by decide) (by decide) rfl ?_
      refine gh_goto (tgt := 165) gd_Wants_findWanted_161 (by decide) ?_
      exact k1286 _ (by rw [if_pos c1288])
    · have hz : True := trivial
      refine gh_iconst gd_Wants_findWanted_164 (gh_r0 rfl) ?_
      exact k1286 _ (by rw [if_neg c1288])
  · have h := hB c1285
    refine gh_iconst gd_Wants_findWanted_56 (gh_r0 rfl) ?_
    refine gh_istore_n (L2 := [(3, 0, 0), (0, 2, 36), (1, 0, v1), (2, 0, v2)]) gd_Wants_findWanted_57 (by decide) rfl ?_
    refine gh_pick (L2 := [(0, 2, 36), (1, 0, v1), (2, 0, v2), (3, 0, 0)]) [1, 2, 3, 0] rfl ?_
    exact gh_M1_sound (T := fun v3 m => gh_T E (gh_yWants_findWanted.cls, prog_12_method_4_code, 6, false, 0) (d + 4) 58 [(0, 2, 36), (1, 0, v1), (2, 0, v2), (3, 0, v3)] [] m (fun r m1 => gh_F m1 ∧ Q r m1)) (fun _ m => gh_F m) (fun K58 v3 m hK hF h => b_Wants_findWanted_58 d hK52 hK v3 m hF h) 0 m hF h
theorem b_Wants_findWanted_11 {E : gh_E} {v1 : Int} {Q : Int → gh_M → Prop} {K11 : Int → gh_M → Prop} (d : Nat) (hK : ∀ (v2 : Int) (m : gh_M), gh_F m → K11 v2 m → gh_T E (gh_yWants_findWanted.cls, prog_12_method_4_code, 6, false, 0) (d + 4) 11 [(0, 2, 36), (1, 0, v1), (2, 0, v2)] [] m (fun r m1 => gh_F m1 ∧ Q r m1)) (v2 : Int) (m : gh_M) (hF : gh_F m) (h : f_Wants_findWanted_11 v1 Q K11 v2 m) : gh_T E (gh_yWants_findWanted.cls, prog_12_method_4_code, 6, false, 0) (d + 4) 11 [(0, 2, 36), (1, 0, v1), (2, 0, v2)] [] m (fun r m1 => gh_F m1 ∧ Q r m1) := by
  have hK11 := hK
  unfold f_Wants_findWanted_11 at h
  refine gh_iload_n gd_Wants_findWanted_11 2 rfl ?_
  refine gh_aload_n gd_Wants_findWanted_12 0 rfl (by decide) ?_
  refine gf_36_0 gd_Wants_findWanted_13 gh_k366 hF ?_
  refine gf_13_1 gd_Wants_findWanted_16 gh_k183 hF rfl ?_
  obtain ⟨hA, hB⟩ := h
  refine gh_jge (tgt := 48) gd_Wants_findWanted_19 (by decide) (fun c1276 => ?_) (fun c1276 => ?_)
  · have h := hA c1276
    refine gh_aload_n gd_Wants_findWanted_22 0 rfl (by decide) ?_
    refine gf_36_6 gd_Wants_findWanted_23 gh_k372 hF ?_
    refine gh_iload_n gd_Wants_findWanted_26 2 rfl ?_
    refine gh_bipush gd_Wants_findWanted_27 (by decide) (gh_r0 rfl) ?_
    obtain ⟨q1277, h⟩ := h
    refine gh_imul gd_Wants_findWanted_29 q1277 ?_
    refine gh_iload_n gd_Wants_findWanted_30 1 rfl ?_
    obtain ⟨q1278, h⟩ := h
    refine gh_iadd gd_Wants_findWanted_31 q1278 ?_
    refine gh_aload_n gd_Wants_findWanted_32 0 rfl (by decide) ?_
    refine gf_36_1 gd_Wants_findWanted_33 gh_k367 hF ?_
    refine gf_20_6 gd_Wants_findWanted_36 gh_k253 hF ?_
    refine gh_iload_n gd_Wants_findWanted_39 2 rfl ?_
    obtain ⟨q1279, h⟩ := h
    obtain ⟨q1280, h⟩ := h
    refine la_21 gd_Wants_findWanted_40 hF q1279 q1280 rfl ?_
    obtain ⟨q1281, h⟩ := h
    obtain ⟨q1282, h⟩ := h
    refine sa_38 gd_Wants_findWanted_41 hF q1281 q1282 (fun hF => ?_)
    obtain ⟨q1283, h⟩ := h
    refine gh_iinc (L2 := [(2, 0, v2 + 1), (0, 2, 36), (1, 0, v1)]) gd_Wants_findWanted_42 2 rfl q1283 (by decide) rfl ?_
    refine gh_goto (tgt := 11) gd_Wants_findWanted_45 (by decide) ?_
    refine gh_pick (L2 := [(0, 2, 36), (1, 0, v1), (2, 0, v2 + 1)]) [1, 2, 0] rfl ?_
    exact hK11 (v2 + 1) (gh_u m 38 ((v2 * 9) + v1) (m 21 v2)) hF h
  · have h := hB c1276
    refine gh_iload_n gd_Wants_findWanted_48 1 rfl ?_
    refine gh_iconst gd_Wants_findWanted_49 (gh_r0 rfl) ?_
    obtain ⟨q1284, h⟩ := h
    refine gh_isub gd_Wants_findWanted_50 q1284 ?_
    refine gh_name (fun v2' hn => ?_)
    have h := h v2' hn
    refine gh_istore_n (L2 := [(2, 0, v2'), (0, 2, 36), (1, 0, v1)]) gd_Wants_findWanted_51 (by decide) rfl ?_
    refine gh_pick (L2 := [(0, 2, 36), (1, 0, v1), (2, 0, v2')]) [1, 2, 0] rfl ?_
    exact gh_M1_sound (T := fun v2 m => gh_T E (gh_yWants_findWanted.cls, prog_12_method_4_code, 6, false, 0) (d + 4) 52 [(0, 2, 36), (1, 0, v1), (2, 0, v2)] [] m (fun r m1 => gh_F m1 ∧ Q r m1)) (fun _ m => gh_F m) (fun K52 v2 m hK hF h => b_Wants_findWanted_52 d hK v2 m hF h) v2' m hF h
theorem s_Wants_findWanted {E : gh_E} {m : gh_M} {Q : Int → gh_M → Prop} (d : Nat) (v1 : Int) (hF : gh_F m) (h : w_Wants_findWanted v1 m Q) : gh_C E gh_yWants_findWanted prog_12_method_4_code 6 (some .int) 0 (d + 4) [(2, 36), (0, v1)] m (fun r m1 => gh_F m1 ∧ Q r m1) := by
  refine gh_enter2 (L := [(0, 2, 36), (1, 0, v1)]) (by decide +kernel) gh_rt0 (Nat.le_of_ble_eq_true rfl) rfl rfl ?_
  unfold w_Wants_findWanted at h
  refine gh_aload_n gd_Wants_findWanted_0 0 rfl (by decide) ?_
  refine gf_36_6 gd_Wants_findWanted_1 gh_k372 hF ?_
  refine gh_ldc (n := 16777216) gd_Wants_findWanted_4 gh_k999 (by decide) (gh_r0 rfl) ?_
  refine gh_fillF (d := d + 3) gd_Wants_findWanted_6 gh_k1000 (ga_38 hF) (Nat.le_of_ble_eq_true rfl) hF gn_38 (by decide) (fun hF => ?_)
  refine gh_iconst gd_Wants_findWanted_9 (gh_r0 rfl) ?_
  refine gh_istore_n (L2 := [(2, 0, 0), (0, 2, 36), (1, 0, v1)]) gd_Wants_findWanted_10 (by decide) rfl ?_
  refine gh_pick (L2 := [(0, 2, 36), (1, 0, v1), (2, 0, 0)]) [1, 2, 0] rfl ?_
  exact gh_M1_sound (T := fun v2 m => gh_T E (gh_yWants_findWanted.cls, prog_12_method_4_code, 6, false, 0) (d + 4) 11 [(0, 2, 36), (1, 0, v1), (2, 0, v2)] [] m (fun r m1 => gh_F m1 ∧ Q r m1)) (fun _ m => gh_F m) (fun K11 v2 m hK hF h => b_Wants_findWanted_11 d hK v2 m hF h) 0 (gh_fil m 38 72 16777216) hF h
def w_Wants_behind (v1 : Int) (m : gh_M) (Q : Int → gh_M → Prop) : Prop := ∃ J34 : gh_M → Prop, (∀ (m : gh_M), J34 m → 0 ≤ v1 ∧ v1 < 9 ∧ Q (m 37 v1) m) ∧ (((gh_iand_f (gh_ishr_f (m 36 4) v1) 1) = 0 → w_Wants_findWanted v1 (gh_u m 36 4 (gh_ior_f (m 36 4) (gh_ishl_f 1 v1))) (fun r1307 m1308 => 0 ≤ v1 ∧ v1 < 9 ∧ J34 (gh_u m1308 37 v1 r1307))) ∧ (¬ ((gh_iand_f (gh_ishr_f (m 36 4) v1) 1) = 0) → J34 m))
theorem s_Wants_behind {E : gh_E} {m : gh_M} {Q : Int → gh_M → Prop} (d : Nat) (v1 : Int) (hF : gh_F m) (h : w_Wants_behind v1 m Q) : gh_C E gh_yWants_behind prog_12_method_3_code 2 (some .int) 0 (d + 5) [(2, 36), (0, v1)] m (fun r m1 => gh_F m1 ∧ Q r m1) := by
  refine gh_enter2 (L := [(0, 2, 36), (1, 0, v1)]) (by decide +kernel) gh_rt0 (Nat.le_of_ble_eq_true rfl) rfl rfl ?_
  unfold w_Wants_behind at h
  refine gh_aload_n gd_Wants_behind_0 0 rfl (by decide) ?_
  refine gf_36_4 gd_Wants_behind_1 gh_k370 hF rfl ?_
  refine gh_iload_n gd_Wants_behind_4 1 rfl ?_
  refine gh_ishr gd_Wants_behind_5 ?_
  refine gh_iconst gd_Wants_behind_6 (gh_r0 rfl) ?_
  refine gh_iand gd_Wants_behind_7 ?_
  obtain ⟨J34, hJ34, h⟩ := h
  have hJ34 : ∀ (m : gh_M), gh_F m → J34 m → gh_T E (gh_yWants_behind.cls, prog_12_method_3_code, 2, false, 0) (d + 5) 34 [(0, 2, 36), (1, 0, v1)] [] m (fun r m1 => gh_F m1 ∧ Q r m1) := by
    intro m hF hj
    have h := hJ34 m hj
    refine gh_aload_n gd_Wants_behind_34 0 rfl (by decide) ?_
    refine gf_36_5 gd_Wants_behind_35 gh_k371 hF ?_
    refine gh_iload_n gd_Wants_behind_38 1 rfl ?_
    obtain ⟨q1304, h⟩ := h
    obtain ⟨q1305, h⟩ := h
    refine la_37 gd_Wants_behind_39 hF q1304 q1305 rfl ?_
    exact gh_ret0 rfl gd_Wants_behind_40 ⟨hF, h⟩
  obtain ⟨hA, hB⟩ := h
  refine gh_zne (tgt := 34) gd_Wants_behind_8 (by decide) (fun c1306 => ?_) (fun c1306 => ?_)
  · have h := hA c1306
    refine gh_aload_n gd_Wants_behind_11 0 rfl (by decide) ?_
    refine gh_dup gd_Wants_behind_12 (by decide) ?_
    refine gf_36_4 gd_Wants_behind_13 gh_k370 hF rfl ?_
    refine gh_iconst gd_Wants_behind_16 (gh_r0 rfl) ?_
    refine gh_iload_n gd_Wants_behind_17 1 rfl ?_
    refine gh_ishl gd_Wants_behind_18 ?_
    refine gh_ior gd_Wants_behind_19 ?_
    refine pf_36_4 gd_Wants_behind_20 gh_k370 hF (fun hF => ?_)
    refine gh_aload_n gd_Wants_behind_23 0 rfl (by decide) ?_
    refine gf_36_5 gd_Wants_behind_24 gh_k371 hF ?_
    refine gh_iload_n gd_Wants_behind_27 1 rfl ?_
    refine gh_aload_n gd_Wants_behind_28 0 rfl (by decide) ?_
    refine gh_iload_n gd_Wants_behind_29 1 rfl ?_
    refine cv_Wants_findWanted (d := d + 4) gd_Wants_behind_30 gh_k995 hF (Nat.le_of_ble_eq_true rfl) (gh_C.mono (s_Wants_findWanted d v1 hF h) (fun r1307 m1308 hq => ?_))
    obtain ⟨hF, h⟩ := hq
    obtain ⟨q1309, h⟩ := h
    obtain ⟨q1310, h⟩ := h
    refine sa_37 gd_Wants_behind_33 hF q1309 q1310 (fun hF => ?_)
    exact hJ34 (gh_u m1308 37 v1 r1307) hF h
  · have h := hB c1306
    exact hJ34 m hF h
def w_House_end (v1 : Int) (m : gh_M) (Q : Int → gh_M → Prop) : Prop := (((m 2 10) = 0 → Q (-1003) m) ∧ (¬ ((m 2 10) = 0) → ((p_House_isPlace v1 m → w_Chart_refresh m (fun _ m1314 => w_Wants_behind v1 m1314 (fun r1315 m1316 => Q r1315 m1316))) ∧ (¬ (p_House_isPlace v1 m) → Q (-1001) m))))
theorem s_House_end {E : gh_E} {m : gh_M} {Q : Int → gh_M → Prop} (d : Nat) (v1 : Int) (hF : gh_F m) (h : w_House_end v1 m Q) : gh_C E gh_yHouse_end prog_1_method_24_code 2 (some .int) 0 (d + 6) [(2, 2), (0, v1)] m (fun r m1 => gh_F m1 ∧ Q r m1) := by
  refine gh_enter2 (L := [(0, 2, 2), (1, 0, v1)]) (by decide +kernel) gh_rt0 (Nat.le_of_ble_eq_true rfl) rfl rfl ?_
  unfold w_House_end at h
  refine gh_aload_n gd_House_end_0 0 rfl (by decide) ?_
  refine gf_2_10 gd_House_end_1 gh_k550 hF rfl ?_
  obtain ⟨hA, hB⟩ := h
  refine gh_zne (tgt := 11) gd_House_end_4 (by decide) (fun c1311 => ?_) (fun c1311 => ?_)
  · have h := hA c1311
    refine gh_sipush gd_House_end_7 (by decide) (gh_r0 rfl) ?_
    exact gh_ret0 rfl gd_House_end_10 ⟨hF, h⟩
  · have h := hB c1311
    refine gh_aload_n gd_House_end_11 0 rfl (by decide) ?_
    refine gh_iload_n gd_House_end_12 1 rfl ?_
    refine cv_House_isPlace (d := d + 5) gd_House_end_13 gh_k903 hF (Nat.le_of_ble_eq_true rfl) (gh_C.pe (e_House_isPlace (d + 5) v1 hF) ?_)
    obtain ⟨hA, hB⟩ := h
    refine gh_bne (tgt := 23) gd_House_end_16 (by decide) (fun c1312 => ?_) (fun c1312 => ?_)
    · have h := hA c1312
      refine gh_aload_n gd_House_end_23 0 rfl (by decide) ?_
      refine gf_2_5 gd_House_end_24 gh_k545 hF ?_
      refine cv_Chart_refresh (d := d + 5) gd_House_end_27 gh_k907 hF (Nat.le_of_ble_eq_true rfl) (gh_C.mono (s_Chart_refresh d hF h) (fun r1313 m1314 hq => ?_))
      obtain ⟨hF, h⟩ := hq
      refine gh_aload_n gd_House_end_30 0 rfl (by decide) ?_
      refine gf_2_6 gd_House_end_31 gh_k546 hF ?_
      refine gh_iload_n gd_House_end_34 1 rfl ?_
      refine cv_Wants_behind (d := d + 5) gd_House_end_35 gh_k991 hF (Nat.le_of_ble_eq_true rfl) (gh_C.mono (s_Wants_behind d v1 hF h) (fun r1315 m1316 hq => ?_))
      obtain ⟨hF, h⟩ := hq
      exact gh_ret0 rfl gd_House_end_38 ⟨hF, h⟩
    · have h := hB c1312
      refine gh_sipush gd_House_end_19 (by decide) (gh_r0 rfl) ?_
      exact gh_ret0 rfl gd_House_end_22 ⟨hF, h⟩
def w_House_makes (v1 : Int) (v2 : Int) (v3 : Int) (m : gh_M) (Q : Int → gh_M → Prop) : Prop := ∃ J35 : Prop, (J35 → ((v2 ≤ v3 → (((m 2 10) = 0 → Q (-1003) m) ∧ (¬ ((m 2 10) = 0) → w_Chart_refresh m (fun _ m1320 => k_Chart_covers v1 v2 v3 ∧ Q (if (p_Chart_covers v1 v2 v3 m1320) then (1:Int) else 0) m1320)))) ∧ (¬ (v2 ≤ v3) → Q (-1002) m))) ∧ (((((m 2 10) = 0) ∨ ((p_House_isName v1 m) ∧ ((p_House_isPlace v2 m) ∧ (p_House_isPlace v3 m)))) → J35) ∧ (¬ (((m 2 10) = 0) ∨ ((p_House_isName v1 m) ∧ ((p_House_isPlace v2 m) ∧ (p_House_isPlace v3 m)))) → Q (-1001) m))
theorem s_House_makes {E : gh_E} {m : gh_M} {Q : Int → gh_M → Prop} (d : Nat) (v1 : Int) (v2 : Int) (v3 : Int) (hF : gh_F m) (h : w_House_makes v1 v2 v3 m Q) : gh_C E gh_yHouse_makes prog_1_method_23_code 4 (some .int) 0 (d + 6) [(2, 2), (0, v1), (0, v2), (0, v3)] m (fun r m1 => gh_F m1 ∧ Q r m1) := by
  refine gh_enter2 (L := [(0, 2, 2), (1, 0, v1), (2, 0, v2), (3, 0, v3)]) (by decide +kernel) gh_rt0 (Nat.le_of_ble_eq_true rfl) rfl rfl ?_
  unfold w_House_makes at h
  refine gh_aload_n gd_House_makes_0 0 rfl (by decide) ?_
  refine gf_2_10 gd_House_makes_1 gh_k550 hF rfl ?_
  obtain ⟨J35, hJ35, h⟩ := h
  have hJ35 : gh_F m → J35 → gh_T E (gh_yHouse_makes.cls, prog_1_method_23_code, 4, false, 0) (d + 6) 35 [(0, 2, 2), (1, 0, v1), (2, 0, v2), (3, 0, v3)] [] m (fun r m1 => gh_F m1 ∧ Q r m1) := by
    intro hF hj
    have h := hJ35 hj
    refine gh_iload_n gd_House_makes_35 2 rfl ?_
    refine gh_iload_n gd_House_makes_36 3 rfl ?_
    obtain ⟨hA, hB⟩ := h
    refine gh_jle (tgt := 44) gd_House_makes_37 (by decide) (fun c1317 => ?_) (fun c1317 => ?_)
    · have h := hA c1317
      refine gh_aload_n gd_House_makes_44 0 rfl (by decide) ?_
      refine gf_2_10 gd_House_makes_45 gh_k550 hF rfl ?_
      obtain ⟨hA, hB⟩ := h
      refine gh_zne (tgt := 55) gd_House_makes_48 (by decide) (fun c1318 => ?_) (fun c1318 => ?_)
      · have h := hA c1318
        refine gh_sipush gd_House_makes_51 (by decide) (gh_r0 rfl) ?_
        exact gh_ret0 rfl gd_House_makes_54 ⟨hF, h⟩
      · have h := hB c1318
        refine gh_aload_n gd_House_makes_55 0 rfl (by decide) ?_
        refine gf_2_5 gd_House_makes_56 gh_k545 hF ?_
        refine cv_Chart_refresh (d := d + 5) gd_House_makes_59 gh_k907 hF (Nat.le_of_ble_eq_true rfl) (gh_C.mono (s_Chart_refresh d hF h) (fun r1319 m1320 hq => ?_))
        obtain ⟨hF, h⟩ := hq
        refine gh_aload_n gd_House_makes_62 0 rfl (by decide) ?_
        refine gf_2_5 gd_House_makes_63 gh_k545 hF ?_
        refine gh_iload_n gd_House_makes_66 1 rfl ?_
        refine gh_iload_n gd_House_makes_67 2 rfl ?_
        refine gh_iload_n gd_House_makes_68 3 rfl ?_
        obtain ⟨q1321, h⟩ := h
        refine cv_Chart_covers (d := d + 5) gd_House_makes_69 gh_k947 hF (Nat.le_of_ble_eq_true rfl) (gh_C.pe (e_Chart_covers (d + 5) v1 v2 v3 hF q1321) ?_)
        have k1322 : ∀ x1323 : Int, x1323 = (if (p_Chart_covers v1 v2 v3 m1320) then (1:Int) else 0) → gh_T E (gh_yHouse_makes.cls, prog_1_method_23_code, 4, false, 0) (d + 6) 80 [(0, 2, 2), (1, 0, v1), (2, 0, v2), (3, 0, v3)] [(0, x1323)] m1320 (fun r m1 => gh_F m1 ∧ Q r m1) := by
          rintro _ rfl
          exact gh_ret0 rfl gd_House_makes_80 ⟨hF, h⟩
        refine gh_beq (tgt := 79) gd_House_makes_72 (by decide) (fun c1324 => ?_) (fun c1324 => ?_)
        · have hz : True := trivial
          refine gh_iconst gd_House_makes_75 (gh_r0 rfl) ?_
          refine gh_goto (tgt := 80) gd_House_makes_76 (by decide) ?_
          exact k1322 _ (if_pos (c := (p_Chart_covers v1 v2 v3 m1320)) c1324).symm
        · have hz : True := trivial
          refine gh_iconst gd_House_makes_79 (gh_r0 rfl) ?_
          exact k1322 _ (if_neg (c := (p_Chart_covers v1 v2 v3 m1320)) c1324).symm
    · have h := hB c1317
      refine gh_sipush gd_House_makes_40 (by decide) (gh_r0 rfl) ?_
      exact gh_ret0 rfl gd_House_makes_43 ⟨hF, h⟩
  obtain ⟨hA, hB⟩ := h
  have k1325 : (((m 2 10) = 0) ∨ ((p_House_isName v1 m) ∧ ((p_House_isPlace v2 m) ∧ (p_House_isPlace v3 m)))) → gh_T E (gh_yHouse_makes.cls, prog_1_method_23_code, 4, false, 0) (d + 6) 35 [(0, 2, 2), (1, 0, v1), (2, 0, v2), (3, 0, v3)] [] m (fun r m1 => gh_F m1 ∧ Q r m1) := by
    intro c
    have h := hA c
    exact hJ35 hF h
  have k1326 : ¬ (((m 2 10) = 0) ∨ ((p_House_isName v1 m) ∧ ((p_House_isPlace v2 m) ∧ (p_House_isPlace v3 m)))) → gh_T E (gh_yHouse_makes.cls, prog_1_method_23_code, 4, false, 0) (d + 6) 31 [(0, 2, 2), (1, 0, v1), (2, 0, v2), (3, 0, v3)] [] m (fun r m1 => gh_F m1 ∧ Q r m1) := by
    intro c
    have h := hB c
    refine gh_sipush gd_House_makes_31 (by decide) (gh_r0 rfl) ?_
    exact gh_ret0 rfl gd_House_makes_34 ⟨hF, h⟩
  refine gh_zeq (tgt := 35) gd_House_makes_4 (by decide) (fun c1327 => ?_) (fun c1327 => ?_)
  · have hz : True := trivial
    exact k1325 (Or.inl c1327)
  · have hz : True := trivial
    refine gh_aload_n gd_House_makes_7 0 rfl (by decide) ?_
    refine gh_iload_n gd_House_makes_8 1 rfl ?_
    refine cv_House_isName (d := d + 5) gd_House_makes_9 gh_k1017 hF (Nat.le_of_ble_eq_true rfl) (gh_C.pe (e_House_isName (d + 5) v1 hF) ?_)
    refine gh_beq (tgt := 31) gd_House_makes_12 (by decide) (fun c1328 => ?_) (fun c1328 => ?_)
    · have hz : True := trivial
      refine gh_aload_n gd_House_makes_15 0 rfl (by decide) ?_
      refine gh_iload_n gd_House_makes_16 2 rfl ?_
      refine cv_House_isPlace (d := d + 5) gd_House_makes_17 gh_k903 hF (Nat.le_of_ble_eq_true rfl) (gh_C.pe (e_House_isPlace (d + 5) v2 hF) ?_)
      refine gh_beq (tgt := 31) gd_House_makes_20 (by decide) (fun c1329 => ?_) (fun c1329 => ?_)
      · have hz : True := trivial
        refine gh_aload_n gd_House_makes_23 0 rfl (by decide) ?_
        refine gh_iload_n gd_House_makes_24 3 rfl ?_
        refine cv_House_isPlace (d := d + 5) gd_House_makes_25 gh_k903 hF (Nat.le_of_ble_eq_true rfl) (gh_C.pe (e_House_isPlace (d + 5) v3 hF) ?_)
        refine gh_bne (tgt := 35) gd_House_makes_28 (by decide) (fun c1330 => ?_) (fun c1330 => ?_)
        · have hz : True := trivial
          exact k1325 (Or.inr ⟨c1328, ⟨c1329, c1330⟩⟩)
        · have hz : True := trivial
          exact k1326 (fun z => z.elim c1327 (fun z => (fun z => c1330 z.2) z.2))
      · have hz : True := trivial
        exact k1326 (fun z => z.elim c1327 (fun z => (fun z => c1329 z.1) z.2))
    · have hz : True := trivial
      exact k1326 (fun z => z.elim c1327 (fun z => c1328 z.1))
def w_Forest_recall (v1 : Int) (v2 : Int) (v3 : Int) (v4 : Int) (m : gh_M) (Q : Int → Prop) : Prop := ((v4 = 0 → (gh_i (v1 * 9) ∧ gh_i ((v1 * 9) + v2) ∧ gh_i (((v1 * 9) + v2) * 9) ∧ gh_i ((((v1 * 9) + v2) * 9) + v3)) ∧ 0 ≤ ((((v1 * 9) + v2) * 9) + v3) ∧ (((((v1 * 9) + v2) * 9) + v3)) < 648 ∧ Q (m 42 (((((v1 * 9) + v2) * 9) + v3)))) ∧ (¬ (v4 = 0) → (((v2 = v3) → (gh_i (0 + v1) ∧ gh_i ((0 + v1) * 256) ∧ gh_i (((0 + v1) * 256) + v4))) ∧ (¬ (v2 = v3) → (gh_i (8 + v1) ∧ gh_i ((8 + v1) * 256) ∧ gh_i (((8 + v1) * 256) + v4)))) ∧ ∀ v5 : Int, v5 = (if v2 = v3 then (((0 + v1) * 256) + v4) else (((8 + v1) * 256) + v4)) → gh_isA m (m 41 8) 1 ∧ (((v5 < (m 0 (2 * (m 41 8) + 1))) → (gh_isA m (m 41 8) 1 ∧ 0 ≤ v5 ∧ v5 < m 0 (2 * (m 41 8) + 1) ∧ ((v2 = v3) → ((((m (m 41 8) v5) = (m 41 10)) → (gh_isA m (m 41 7) 3 ∧ 0 ≤ v5 ∧ v5 < m 0 (2 * (m 41 7) + 1))))) ∧ (¬ (v2 = v3) → ((((m (m 41 8) v5) = (m 41 9)) → (gh_isA m (m 41 7) 3 ∧ 0 ≤ v5 ∧ v5 < m 0 (2 * (m 41 7) + 1)))))))) ∧ Q (if v5 < (m 0 (2 * (m 41 8) + 1)) then (if v2 = v3 then (if (m (m 41 8) v5) = (m 41 10) then (m (m 41 7) v5) else (-1)) else (if (m (m 41 8) v5) = (m 41 9) then (m (m 41 7) v5) else (-1))) else (-1))))
theorem s_Forest_recall {E : gh_E} {m : gh_M} {Q : Int → Prop} (d : Nat) (v1 : Int) (v2 : Int) (v3 : Int) (v4 : Int) (hF : gh_F m) (h : w_Forest_recall v1 v2 v3 v4 m Q) : gh_C E gh_yForest_recall prog_5_method_8_code 6 (some .long) 1 (d + 1) [(2, 41), (0, v1), (0, v2), (0, v3), (0, v4)] m (fun r m1 => m1 = m ∧ Q r) := by
  refine gh_enter2 (L := [(0, 2, 41), (1, 0, v1), (2, 0, v2), (3, 0, v3), (4, 0, v4)]) (by decide +kernel) gh_rt1 (Nat.le_of_ble_eq_true rfl) rfl rfl ?_
  unfold w_Forest_recall at h
  refine gh_iload gd_Forest_recall_0 4 rfl ?_
  obtain ⟨hA, hB⟩ := h
  refine gh_zne (tgt := 17) gd_Forest_recall_2 (by decide) (fun c1331 => ?_) (fun c1331 => ?_)
  · have h := hA c1331
    refine gh_aload_n gd_Forest_recall_5 0 rfl (by decide) ?_
    refine gf_41_4 gd_Forest_recall_6 gh_k407 hF ?_
    refine gh_iload_n gd_Forest_recall_9 1 rfl ?_
    refine gh_iload_n gd_Forest_recall_10 2 rfl ?_
    refine gh_iload_n gd_Forest_recall_11 3 rfl ?_
    obtain ⟨q1332, h⟩ := h
    refine cv_Forest_plainAt (d := d) gd_Forest_recall_12 gh_k1036 (Nat.le_of_ble_eq_true rfl) (gh_C.pe (e_Forest_plainAt d v1 v2 v3 q1332) ?_)
    obtain ⟨q1333, h⟩ := h
    obtain ⟨q1334, h⟩ := h
    refine la_42 gd_Forest_recall_15 hF q1333 q1334 rfl ?_
    exact gh_ret1 rfl gd_Forest_recall_16 ⟨rfl, h⟩
  · have h := hB c1331
    refine gh_iload_n gd_Forest_recall_17 1 rfl ?_
    refine gh_iload_n gd_Forest_recall_18 2 rfl ?_
    refine gh_iload_n gd_Forest_recall_19 3 rfl ?_
    refine gh_iload gd_Forest_recall_20 4 rfl ?_
    obtain ⟨q1335, h⟩ := h
    refine cv_Forest_underAt (d := d) gd_Forest_recall_22 gh_k1049 (Nat.le_of_ble_eq_true rfl) (gh_C.pe (e_Forest_underAt d v1 v2 v3 v4 q1335) ?_)
    refine gh_name (fun v5 hn => ?_)
    have h := h v5 hn
    refine gh_istore (L2 := [(5, 0, v5), (0, 2, 41), (1, 0, v1), (2, 0, v2), (3, 0, v3), (4, 0, v4)]) gd_Forest_recall_25 (by decide) rfl ?_
    refine gh_iload gd_Forest_recall_27 0 rfl ?_
    refine gh_aload_n gd_Forest_recall_29 1 rfl (by decide) ?_
    refine gf_41_8 gd_Forest_recall_30 gh_k411 hF rfl ?_
    obtain ⟨q1336, h⟩ := h
    refine gh_alen gd_Forest_recall_33 q1336 (by decide) ?_
    obtain ⟨hk, h⟩ := h
    have k1346 : ∀ x1347 : Int, x1347 = (if v5 < (m 0 (2 * (m 41 8) + 1)) then (if v2 = v3 then (if (m (m 41 8) v5) = (m 41 10) then (m (m 41 7) v5) else (-1)) else (if (m (m 41 8) v5) = (m 41 9) then (m (m 41 7) v5) else (-1))) else (-1)) → gh_T E (gh_yForest_recall.cls, prog_5_method_8_code, 6, false, 1) (d + 1) 76 [(5, 0, v5), (0, 2, 41), (1, 0, v1), (2, 0, v2), (3, 0, v3), (4, 0, v4)] [(1, x1347)] m (fun r m1 => m1 = m ∧ Q r) := by
      rintro _ rfl
      exact gh_ret1 rfl gd_Forest_recall_76 ⟨rfl, h⟩
    refine gh_jge (tgt := 73) gd_Forest_recall_34 (by decide) (fun c1348 => ?_) (fun c1348 => ?_)
    · have hz : True := trivial
      have hk := hk c1348
      refine gh_aload_n gd_Forest_recall_37 1 rfl (by decide) ?_
      refine gf_41_8 gd_Forest_recall_38 gh_k411 hF rfl ?_
      refine gh_iload gd_Forest_recall_41 0 rfl ?_
      obtain ⟨q1337, hk⟩ := hk
      obtain ⟨q1338, hk⟩ := hk
      obtain ⟨q1339, hk⟩ := hk
      refine gh_iald gd_Forest_recall_43 q1337 q1338 q1339 ?_
      refine gh_iload_n gd_Forest_recall_44 3 rfl ?_
      refine gh_iload_n gd_Forest_recall_45 4 rfl ?_
      refine gh_jne (tgt := 56) gd_Forest_recall_46 (by decide) (fun c1349 => ?_) (fun c1349 => ?_)
      · have hz : True := trivial
        have hk := hk.1 c1349
        refine gh_aload_n gd_Forest_recall_49 1 rfl (by decide) ?_
        refine gf_41_10 gd_Forest_recall_50 gh_k413 hF rfl ?_
        refine gh_goto (tgt := 60) gd_Forest_recall_53 (by decide) ?_
        refine gh_jne (tgt := 73) gd_Forest_recall_60 (by decide) (fun c1350 => ?_) (fun c1350 => ?_)
        · have hz : True := trivial
          have hk := hk c1350
          refine gh_aload_n gd_Forest_recall_63 1 rfl (by decide) ?_
          refine gf_41_7 gd_Forest_recall_64 gh_k410 hF rfl ?_
          refine gh_iload gd_Forest_recall_67 0 rfl ?_
          obtain ⟨q1340, hk⟩ := hk
          obtain ⟨q1341, hk⟩ := hk
          have q1342 := hk
          refine gh_lald gd_Forest_recall_69 q1340 q1341 q1342 ?_
          refine gh_goto (tgt := 76) gd_Forest_recall_70 (by decide) ?_
          exact k1346 _ (by rw [if_pos c1348, if_pos c1349, if_pos c1350])
        · have hz : True := trivial
          refine gh_ldc2 (n := (-1)) gd_Forest_recall_73 gh_k1039 (by decide) (gh_r1 rfl) ?_
          exact k1346 _ (by rw [if_pos c1348, if_pos c1349, if_neg c1350])
      · have hz : True := trivial
        have hk := hk.2 c1349
        refine gh_aload_n gd_Forest_recall_56 1 rfl (by decide) ?_
        refine gf_41_9 gd_Forest_recall_57 gh_k412 hF rfl ?_
        refine gh_jne (tgt := 73) gd_Forest_recall_60 (by decide) (fun c1351 => ?_) (fun c1351 => ?_)
        · have hz : True := trivial
          have hk := hk c1351
          refine gh_aload_n gd_Forest_recall_63 1 rfl (by decide) ?_
          refine gf_41_7 gd_Forest_recall_64 gh_k410 hF rfl ?_
          refine gh_iload gd_Forest_recall_67 0 rfl ?_
          obtain ⟨q1343, hk⟩ := hk
          obtain ⟨q1344, hk⟩ := hk
          have q1345 := hk
          refine gh_lald gd_Forest_recall_69 q1343 q1344 q1345 ?_
          refine gh_goto (tgt := 76) gd_Forest_recall_70 (by decide) ?_
          exact k1346 _ (by rw [if_pos c1348, if_neg c1349, if_pos c1351])
        · have hz : True := trivial
          refine gh_ldc2 (n := (-1)) gd_Forest_recall_73 gh_k1039 (by decide) (gh_r1 rfl) ?_
          exact k1346 _ (by rw [if_pos c1348, if_neg c1349, if_neg c1351])
    · have hz : True := trivial
      refine gh_ldc2 (n := (-1)) gd_Forest_recall_73 gh_k1039 (by decide) (gh_r1 rfl) ?_
      exact k1346 _ (by rw [if_neg c1348])
def w_Forest_countOfPart (REC : Int → Int → Int → Int → Int → gh_M → (Int → gh_M → Prop) → Prop) (v1 : Int) (v2 : Int) (v3 : Int) (v4 : Int) (v5 : Int) (v6 : Int) (v7 : Int) (m : gh_M) (Q : Int → gh_M → Prop) : Prop := k_Grammar_nameOf v1 m ∧ ∀ v8 : Int, v8 = x_Grammar_nameOf v1 m → ((v8 = (-1) → gh_i (v2 + 1) ∧ (((v3 = (v2 + 1)) → (k_Text_fits v1 v2 m))) ∧ Q (if ((v3 = (v2 + 1)) ∧ (p_Text_fits v1 v2 m)) then (1:Int) else 0) m) ∧ (¬ (v8 = (-1)) → ∃ J72 : Prop, (J72 → (gh_i (v8 * 9) ∧ gh_i ((v8 * 9) + v2) ∧ gh_i (((v8 * 9) + v2) * 9) ∧ gh_i ((((v8 * 9) + v2) * 9) + v3)) ∧ 0 ≤ ((((v8 * 9) + v2) * 9) + v3) ∧ (((((v8 * 9) + v2) * 9) + v3)) < 648 ∧ Q (m 42 (((((v8 * 9) + v2) * 9) + v3))) m) ∧ ((((v2 = v4) ∧ (v3 = v5)) → gh_i (v7 + 1) ∧ REC v8 v4 v5 v6 (v7 + 1) m (fun r1366 m1367 => Q r1366 m1367)) ∧ (¬ ((v2 = v4) ∧ (v3 = v5)) → J72))))
theorem s_Forest_countOfPart {E : gh_E} {m : gh_M} {Q : Int → gh_M → Prop} (d : Nat) (REC : Int → Int → Int → Int → Int → gh_M → (Int → gh_M → Prop) → Prop) (hrec : ∀ (a b c d0 e0 : Int) (m : gh_M) (Q : Int → gh_M → Prop), gh_F m → REC a b c d0 e0 m Q → gh_C E gh_yForest_countOf prog_5_method_7_code 10 (some .long) 1 (d + 0) [(2, 41), (0, a), (0, b), (0, c), (0, d0), (0, e0)] m (fun r m1 => gh_F m1 ∧ Q r m1)) (v1 : Int) (v2 : Int) (v3 : Int) (v4 : Int) (v5 : Int) (v6 : Int) (v7 : Int) (hF : gh_F m) (h : w_Forest_countOfPart REC v1 v2 v3 v4 v5 v6 v7 m Q) : gh_C E gh_yForest_countOfPart prog_5_method_13_code 9 (some .long) 1 (d + 1) [(2, 41), (0, v1), (0, v2), (0, v3), (0, v4), (0, v5), (0, v6), (0, v7)] m (fun r m1 => gh_F m1 ∧ Q r m1) := by
  refine gh_enter2 (L := [(0, 2, 41), (1, 0, v1), (2, 0, v2), (3, 0, v3), (4, 0, v4), (5, 0, v5), (6, 0, v6), (7, 0, v7)]) (by decide +kernel) gh_rt1 (Nat.le_of_ble_eq_true rfl) rfl rfl ?_
  unfold w_Forest_countOfPart at h
  refine gh_aload_n gd_Forest_countOfPart_0 0 rfl (by decide) ?_
  refine gf_41_0 gd_Forest_countOfPart_1 gh_k403 hF ?_
  refine gh_iload_n gd_Forest_countOfPart_4 1 rfl ?_
  obtain ⟨q1352, h⟩ := h
  refine cv_Grammar_nameOf (d := d) gd_Forest_countOfPart_5 gh_k1063 hF (Nat.le_of_ble_eq_true rfl) (gh_C.pe (e_Grammar_nameOf d v1 hF q1352) ?_)
  refine gh_name (fun v8 hn => ?_)
  have h := h v8 hn
  refine gh_istore (L2 := [(8, 0, v8), (0, 2, 41), (1, 0, v1), (2, 0, v2), (3, 0, v3), (4, 0, v4), (5, 0, v5), (6, 0, v6), (7, 0, v7)]) gd_Forest_countOfPart_8 (by decide) rfl ?_
  refine gh_iload gd_Forest_countOfPart_10 0 rfl ?_
  refine gh_iconst gd_Forest_countOfPart_12 (gh_r0 rfl) ?_
  obtain ⟨hA, hB⟩ := h
  refine gh_jne (tgt := 41) gd_Forest_countOfPart_13 (by decide) (fun c1353 => ?_) (fun c1353 => ?_)
  · have h := hA c1353
    refine gh_iload_n gd_Forest_countOfPart_16 4 rfl ?_
    refine gh_iload_n gd_Forest_countOfPart_17 3 rfl ?_
    refine gh_iconst gd_Forest_countOfPart_18 (gh_r0 rfl) ?_
    obtain ⟨q1354, h⟩ := h
    refine gh_iadd gd_Forest_countOfPart_19 q1354 ?_
    obtain ⟨hk, h⟩ := h
    have k1356 : ∀ x1357 : Int, x1357 = (if ((v3 = (v2 + 1)) ∧ (p_Text_fits v1 v2 m)) then (1:Int) else 0) → gh_T E (gh_yForest_countOfPart.cls, prog_5_method_13_code, 9, false, 1) (d + 1) 40 [(8, 0, v8), (0, 2, 41), (1, 0, v1), (2, 0, v2), (3, 0, v3), (4, 0, v4), (5, 0, v5), (6, 0, v6), (7, 0, v7)] [(1, x1357)] m (fun r m1 => gh_F m1 ∧ Q r m1) := by
      rintro _ rfl
      exact gh_ret1 rfl gd_Forest_countOfPart_40 ⟨hF, h⟩
    refine gh_jne (tgt := 39) gd_Forest_countOfPart_20 (by decide) (fun c1358 => ?_) (fun c1358 => ?_)
    · have hz : True := trivial
      have hk := hk c1358
      refine gh_aload_n gd_Forest_countOfPart_23 1 rfl (by decide) ?_
      refine gf_41_2 gd_Forest_countOfPart_24 gh_k405 hF ?_
      refine gh_iload_n gd_Forest_countOfPart_27 2 rfl ?_
      refine gh_iload_n gd_Forest_countOfPart_28 3 rfl ?_
      have q1355 := hk
      refine cv_Text_fits (d := d) gd_Forest_countOfPart_29 gh_k1064 hF (Nat.le_of_ble_eq_true rfl) (gh_C.pe (e_Text_fits d v1 v2 hF q1355) ?_)
      refine gh_beq (tgt := 39) gd_Forest_countOfPart_32 (by decide) (fun c1359 => ?_) (fun c1359 => ?_)
      · have hz : True := trivial
        refine gh_lconst (n := 1) gd_Forest_countOfPart_35 (by decide) (gh_r1 rfl) ?_
        refine gh_goto (tgt := 40) gd_Forest_countOfPart_36 (by decide) ?_
        exact k1356 _ (if_pos (c := ((v3 = (v2 + 1)) ∧ (p_Text_fits v1 v2 m))) ⟨c1358, c1359⟩).symm
      · have hz : True := trivial
        refine gh_lconst (n := 0) gd_Forest_countOfPart_39 (by decide) (gh_r1 rfl) ?_
        exact k1356 _ (if_neg (c := ((v3 = (v2 + 1)) ∧ (p_Text_fits v1 v2 m))) (fun z => c1359 z.2)).symm
    · have hz : True := trivial
      refine gh_lconst (n := 0) gd_Forest_countOfPart_39 (by decide) (gh_r1 rfl) ?_
      exact k1356 _ (if_neg (c := ((v3 = (v2 + 1)) ∧ (p_Text_fits v1 v2 m))) (fun z => c1358 z.1)).symm
  · have h := hB c1353
    refine gh_iload_n gd_Forest_countOfPart_41 3 rfl ?_
    refine gh_iload gd_Forest_countOfPart_42 5 rfl ?_
    obtain ⟨J72, hJ72, h⟩ := h
    have hJ72 : gh_F m → J72 → gh_T E (gh_yForest_countOfPart.cls, prog_5_method_13_code, 9, false, 1) (d + 1) 72 [(0, 2, 41), (2, 0, v2), (3, 0, v3), (8, 0, v8)] [] m (fun r m1 => gh_F m1 ∧ Q r m1) := by
      intro hF hj
      have h := hJ72 hj
      refine gh_aload_n gd_Forest_countOfPart_72 0 rfl (by decide) ?_
      refine gf_41_4 gd_Forest_countOfPart_73 gh_k407 hF ?_
      refine gh_iload gd_Forest_countOfPart_76 3 rfl ?_
      refine gh_iload_n gd_Forest_countOfPart_78 1 rfl ?_
      refine gh_iload_n gd_Forest_countOfPart_79 2 rfl ?_
      obtain ⟨q1360, h⟩ := h
      refine cv_Forest_plainAt (d := d) gd_Forest_countOfPart_80 gh_k1036 (Nat.le_of_ble_eq_true rfl) (gh_C.pe (e_Forest_plainAt d v8 v2 v3 q1360) ?_)
      obtain ⟨q1361, h⟩ := h
      obtain ⟨q1362, h⟩ := h
      refine la_42 gd_Forest_countOfPart_83 hF q1361 q1362 rfl ?_
      exact gh_ret1 rfl gd_Forest_countOfPart_84 ⟨hF, h⟩
    obtain ⟨hA, hB⟩ := h
    have k1363 : ((v2 = v4) ∧ (v3 = v5)) → gh_T E (gh_yForest_countOfPart.cls, prog_5_method_13_code, 9, false, 1) (d + 1) 53 [(8, 0, v8), (0, 2, 41), (1, 0, v1), (2, 0, v2), (3, 0, v3), (4, 0, v4), (5, 0, v5), (6, 0, v6), (7, 0, v7)] [] m (fun r m1 => gh_F m1 ∧ Q r m1) := by
      intro c
      have h := hA c
      refine gh_aload_n gd_Forest_countOfPart_53 1 rfl (by decide) ?_
      refine gh_iload gd_Forest_countOfPart_54 0 rfl ?_
      refine gh_iload gd_Forest_countOfPart_56 5 rfl ?_
      refine gh_iload gd_Forest_countOfPart_58 6 rfl ?_
      refine gh_iload gd_Forest_countOfPart_60 7 rfl ?_
      refine gh_iload gd_Forest_countOfPart_62 8 rfl ?_
      refine gh_iconst gd_Forest_countOfPart_64 (gh_r0 rfl) ?_
      obtain ⟨q1365, h⟩ := h
      refine gh_iadd gd_Forest_countOfPart_65 q1365 ?_
      refine cv_Forest_countOf (d := d) gd_Forest_countOfPart_66 gh_k1040 hF (Nat.le_of_ble_eq_true rfl) (gh_C.mono (hrec v8 v4 v5 v6 (v7 + 1) _ _ hF h) (fun r1366 m1367 hq => ?_))
      obtain ⟨hF, h⟩ := hq
      refine gh_goto (tgt := 84) gd_Forest_countOfPart_69 (by decide) ?_
      exact gh_ret1 rfl gd_Forest_countOfPart_84 ⟨hF, h⟩
    have k1364 : ¬ ((v2 = v4) ∧ (v3 = v5)) → gh_T E (gh_yForest_countOfPart.cls, prog_5_method_13_code, 9, false, 1) (d + 1) 72 [(8, 0, v8), (0, 2, 41), (1, 0, v1), (2, 0, v2), (3, 0, v3), (4, 0, v4), (5, 0, v5), (6, 0, v6), (7, 0, v7)] [] m (fun r m1 => gh_F m1 ∧ Q r m1) := by
      intro c
      have h := hB c
      refine gh_pick (L2 := [(0, 2, 41), (2, 0, v2), (3, 0, v3), (8, 0, v8)]) [1, 3, 4, 0] rfl ?_
      exact hJ72 hF h
    refine gh_jne (tgt := 72) gd_Forest_countOfPart_44 (by decide) (fun c1368 => ?_) (fun c1368 => ?_)
    · have hz : True := trivial
      refine gh_iload_n gd_Forest_countOfPart_47 4 rfl ?_
      refine gh_iload gd_Forest_countOfPart_48 6 rfl ?_
      refine gh_jne (tgt := 72) gd_Forest_countOfPart_50 (by decide) (fun c1369 => ?_) (fun c1369 => ?_)
      · have hz : True := trivial
        exact k1363 ⟨c1368, c1369⟩
      · have hz : True := trivial
        exact k1364 (fun z => c1369 z.2)
    · have hz : True := trivial
      exact k1364 (fun z => c1368 z.1)
def f_Forest_countByRule_170 (REC : Int → Int → Int → Int → Int → gh_M → (Int → gh_M → Prop) → Prop) (v1 : Int) (v2 : Int) (v3 : Int) (v4 : Int) (v5 : Int) (v6 : Int) (v9 : Int) (v10 : Int) (v13 : Int) (K130 : Int → gh_M → Prop) (K170 : Int → Int → gh_M → Prop) (v11 : Int) (v14 : Int) (m : gh_M) : Prop := ∃ J254 : Int → gh_M → Prop, (∀ (v11' : Int) (m : gh_M), J254 v11' m → gh_i (v9 * 9) ∧ gh_i (v6 + (v9 * 9)) ∧ gh_i ((v6 + (v9 * 9)) + v10) ∧ 0 ≤ (v6 + (v9 * 9)) + v10 ∧ ((v6 + (v9 * 9)) + v10) < 360 ∧ gh_i (v10 + 1) ∧ K130 (v10 + 1) (gh_u m 43 ((v6 + (v9 * 9)) + v10) v11')) ∧ (((¬ (v14 ≤ v3) ∨ (v13 = 0)) → J254 v11 m) ∧ (¬ (¬ (v14 ≤ v3) ∨ (v13 = 0)) → gh_i (v9 + 1) ∧ gh_i ((v9 + 1) * 9) ∧ gh_i (v6 + ((v9 + 1) * 9)) ∧ gh_i ((v6 + ((v9 + 1) * 9)) + v14) ∧ 0 ≤ (v6 + ((v9 + 1) * 9)) + v14 ∧ ((v6 + ((v9 + 1) * 9)) + v14) < 360 ∧ ∀ v15 : Int, v15 = m 43 ((v6 + ((v9 + 1) * 9)) + v14) → ∃ J248 : Int → gh_M → Prop, (∀ (v11' : Int) (m : gh_M), J248 v11' m → gh_i (v14 + 1) ∧ K170 v11' (v14 + 1) m) ∧ ((v15 ≤ 0 → J248 v11 m) ∧ (¬ (v15 ≤ 0) → k_Grammar_partAt v1 v9 m ∧ w_Forest_countOfPart REC (x_Grammar_partAt v1 v9 m) v10 v14 v2 v3 v4 v5 m (fun r1421 m1422 => k_Forest_times r1421 v15 ∧ k_Forest_plus v11 (x_Forest_times r1421 v15) ∧ ∀ v11' : Int, v11' = x_Forest_plus v11 (x_Forest_times r1421 v15) → J248 v11' m1422)))))
def f_Forest_countByRule_130 (REC : Int → Int → Int → Int → Int → gh_M → (Int → gh_M → Prop) → Prop) (v1 : Int) (v2 : Int) (v3 : Int) (v4 : Int) (v5 : Int) (v6 : Int) (v9 : Int) (K122 : Int → gh_M → Prop) (K130 : Int → gh_M → Prop) (v10 : Int) (m : gh_M) : Prop := ((v10 ≤ v3 → gh_i (v5 * 4) ∧ gh_i ((v5 * 4) + v9) ∧ 0 ≤ (v5 * 4) + v9 ∧ ((v5 * 4) + v9) < 32 ∧ ∀ v13 : Int, v13 = (if (¬ ((gh_iand_f (gh_ishr_f (m 44 ((v5 * 4) + v9)) v10) 1) = 0)) then (1:Int) else 0) → gh_M2 (fun K170 v11 v14 m => f_Forest_countByRule_170 REC v1 v2 v3 v4 v5 v6 v9 v10 v13 K130 K170 v11 v14 m) 0 v10 m) ∧ (¬ (v10 ≤ v3) → gh_i (v9 + (-1)) ∧ K122 (v9 + (-1)) m))
def f_Forest_countByRule_122 (REC : Int → Int → Int → Int → Int → gh_M → (Int → gh_M → Prop) → Prop) (v1 : Int) (v2 : Int) (v3 : Int) (v4 : Int) (v5 : Int) (v6 : Int) (Q : Int → gh_M → Prop) (K122 : Int → gh_M → Prop) (v9 : Int) (m : gh_M) : Prop := ((v9 < 0 → gh_i (v6 + v2) ∧ 0 ≤ v6 + v2 ∧ (v6 + v2) < 360 ∧ Q (m 43 (v6 + v2)) m) ∧ (¬ (v9 < 0) → gh_M1 (fun K130 v10 m => f_Forest_countByRule_130 REC v1 v2 v3 v4 v5 v6 v9 K122 K130 v10 m) v2 m))
def f_Forest_countByRule_77 (REC : Int → Int → Int → Int → Int → gh_M → (Int → gh_M → Prop) → Prop) (v1 : Int) (v2 : Int) (v3 : Int) (v4 : Int) (v5 : Int) (v6 : Int) (v7 : Int) (Q : Int → gh_M → Prop) (K77 : Int → gh_M → Prop) (v9 : Int) (m : gh_M) : Prop := ((v9 ≤ v3 → gh_i (v7 * 9) ∧ gh_i (v6 + (v7 * 9)) ∧ gh_i ((v6 + (v7 * 9)) + v9) ∧ 0 ≤ (v6 + (v7 * 9)) + v9 ∧ ((v6 + (v7 * 9)) + v9) < 360 ∧ gh_i (v9 + 1) ∧ K77 (v9 + 1) (gh_u m 43 ((v6 + (v7 * 9)) + v9) (if (v9 = v3) then (1:Int) else 0))) ∧ (¬ (v9 ≤ v3) → gh_i (v7 - 1) ∧ ∀ v9' : Int, v9' = v7 - 1 → gh_M1 (fun K122 v9 m => f_Forest_countByRule_122 REC v1 v2 v3 v4 v5 v6 Q K122 v9 m) v9' m))
def f_Forest_countByRule_26 (REC : Int → Int → Int → Int → Int → gh_M → (Int → gh_M → Prop) → Prop) (v1 : Int) (v2 : Int) (v3 : Int) (v4 : Int) (v5 : Int) (v6 : Int) (v7 : Int) (Q : Int → gh_M → Prop) (K26 : Int → Int → gh_M → Prop) (v8 : Int) (v9 : Int) (m : gh_M) : Prop := ((v9 < v7 → gh_i (v5 * 4) ∧ gh_i ((v5 * 4) + v9) ∧ 0 ≤ (v5 * 4) + v9 ∧ ((v5 * 4) + v9) < 32 ∧ k_Grammar_partAt v1 v9 (gh_u m 44 ((v5 * 4) + v9) v8) ∧ w_Chart_beyond (x_Grammar_partAt v1 v9 (gh_u m 44 ((v5 * 4) + v9) v8)) v8 (gh_u m 44 ((v5 * 4) + v9) v8) (fun r1379 => gh_i (v9 + 1) ∧ K26 r1379 (v9 + 1) (gh_u m 44 ((v5 * 4) + v9) v8))) ∧ (¬ (v9 < v7) → gh_M1 (fun K77 v9 m => f_Forest_countByRule_77 REC v1 v2 v3 v4 v5 v6 v7 Q K77 v9 m) v2 m))
def w_Forest_countByRule (REC : Int → Int → Int → Int → Int → gh_M → (Int → gh_M → Prop) → Prop) (v1 : Int) (v2 : Int) (v3 : Int) (v4 : Int) (v5 : Int) (m : gh_M) (Q : Int → gh_M → Prop) : Prop := gh_i (v5 * 45) ∧ ∀ v6 : Int, v6 = v5 * 45 → 0 ≤ v1 ∧ v1 < 20 ∧ ∀ v7 : Int, v7 = m 17 v1 → ∀ v8 : Int, v8 = gh_ishl_f 1 v2 → gh_M2 (fun K26 v8 v9 m => f_Forest_countByRule_26 REC v1 v2 v3 v4 v5 v6 v7 Q K26 v8 v9 m) v8 0 m
theorem b_Forest_countByRule_170 {E : gh_E} {v1 : Int} {v2 : Int} {v3 : Int} {v4 : Int} {v5 : Int} {v6 : Int} {v9 : Int} {v10 : Int} {v13 : Int} {K130 : Int → gh_M → Prop} {Q : Int → gh_M → Prop} {K170 : Int → Int → gh_M → Prop} (d : Nat) (REC : Int → Int → Int → Int → Int → gh_M → (Int → gh_M → Prop) → Prop) (hrec : ∀ (a b c d0 e0 : Int) (m : gh_M) (Q : Int → gh_M → Prop), gh_F m → REC a b c d0 e0 m Q → gh_C E gh_yForest_countOf prog_5_method_7_code 10 (some .long) 1 (d + 0) [(2, 41), (0, a), (0, b), (0, c), (0, d0), (0, e0)] m (fun r m1 => gh_F m1 ∧ Q r m1)) (hK130 : ∀ (v10 : Int) (m : gh_M), gh_F m → K130 v10 m → gh_T E (gh_yForest_countByRule.cls, prog_5_method_11_code, 19, false, 1) (d + 2) 130 [(0, 2, 41), (1, 0, v1), (2, 0, v2), (3, 0, v3), (4, 0, v4), (5, 0, v5), (6, 0, v6), (9, 0, v9), (10, 0, v10)] [] m (fun r m1 => gh_F m1 ∧ Q r m1)) (hK : ∀ (v11 : Int) (v14 : Int) (m : gh_M), gh_F m → K170 v11 v14 m → gh_T E (gh_yForest_countByRule.cls, prog_5_method_11_code, 19, false, 1) (d + 2) 170 [(0, 2, 41), (1, 0, v1), (2, 0, v2), (3, 0, v3), (4, 0, v4), (5, 0, v5), (6, 0, v6), (9, 0, v9), (10, 0, v10), (11, 1, v11), (13, 0, v13), (14, 0, v14)] [] m (fun r m1 => gh_F m1 ∧ Q r m1)) (v11 : Int) (v14 : Int) (m : gh_M) (hF : gh_F m) (h : f_Forest_countByRule_170 REC v1 v2 v3 v4 v5 v6 v9 v10 v13 K130 K170 v11 v14 m) : gh_T E (gh_yForest_countByRule.cls, prog_5_method_11_code, 19, false, 1) (d + 2) 170 [(0, 2, 41), (1, 0, v1), (2, 0, v2), (3, 0, v3), (4, 0, v4), (5, 0, v5), (6, 0, v6), (9, 0, v9), (10, 0, v10), (11, 1, v11), (13, 0, v13), (14, 0, v14)] [] m (fun r m1 => gh_F m1 ∧ Q r m1) := by
  have hK170 := hK
  unfold f_Forest_countByRule_170 at h
  refine gh_iload gd_Forest_countByRule_170 11 rfl ?_
  refine gh_iload_n gd_Forest_countByRule_172 3 rfl ?_
  obtain ⟨J254, hJ254, h⟩ := h
  have hJ254 : ∀ (v11' : Int) (m : gh_M), gh_F m → J254 v11' m → gh_T E (gh_yForest_countByRule.cls, prog_5_method_11_code, 19, false, 1) (d + 2) 254 [(0, 2, 41), (1, 0, v1), (2, 0, v2), (3, 0, v3), (4, 0, v4), (5, 0, v5), (6, 0, v6), (9, 0, v9), (10, 0, v10), (11, 1, v11')] [] m (fun r m1 => gh_F m1 ∧ Q r m1) := by
    intro v11' m hF hj
    have h := hJ254 v11' m hj
    refine gh_aload_n gd_Forest_countByRule_254 0 rfl (by decide) ?_
    refine gf_41_5 gd_Forest_countByRule_255 gh_k408 hF ?_
    refine gh_iload gd_Forest_countByRule_258 6 rfl ?_
    refine gh_iload gd_Forest_countByRule_260 7 rfl ?_
    refine gh_bipush gd_Forest_countByRule_262 (by decide) (gh_r0 rfl) ?_
    obtain ⟨q1404, h⟩ := h
    refine gh_imul gd_Forest_countByRule_264 q1404 ?_
    obtain ⟨q1405, h⟩ := h
    refine gh_iadd gd_Forest_countByRule_265 q1405 ?_
    refine gh_iload gd_Forest_countByRule_266 8 rfl ?_
    obtain ⟨q1406, h⟩ := h
    refine gh_iadd gd_Forest_countByRule_268 q1406 ?_
    refine gh_lload gd_Forest_countByRule_269 9 rfl ?_
    obtain ⟨q1407, h⟩ := h
    obtain ⟨q1408, h⟩ := h
    refine sa_43 gd_Forest_countByRule_271 hF q1407 q1408 (fun hF => ?_)
    obtain ⟨q1409, h⟩ := h
    refine gh_iinc (L2 := [(10, 0, v10 + 1), (0, 2, 41), (1, 0, v1), (2, 0, v2), (3, 0, v3), (4, 0, v4), (5, 0, v5), (6, 0, v6), (9, 0, v9), (11, 1, v11')]) gd_Forest_countByRule_272 8 rfl q1409 (by decide) rfl ?_
    refine gh_goto (tgt := 130) gd_Forest_countByRule_275 (by decide) ?_
    refine gh_pick (L2 := [(0, 2, 41), (1, 0, v1), (2, 0, v2), (3, 0, v3), (4, 0, v4), (5, 0, v5), (6, 0, v6), (9, 0, v9), (10, 0, v10 + 1)]) [1, 2, 3, 4, 5, 6, 7, 8, 0] rfl ?_
    exact hK130 (v10 + 1) (gh_u m 43 ((v6 + (v9 * 9)) + v10) v11') hF h
  obtain ⟨hA, hB⟩ := h
  have k1410 : (¬ (v14 ≤ v3) ∨ (v13 = 0)) → gh_T E (gh_yForest_countByRule.cls, prog_5_method_11_code, 19, false, 1) (d + 2) 254 [(0, 2, 41), (1, 0, v1), (2, 0, v2), (3, 0, v3), (4, 0, v4), (5, 0, v5), (6, 0, v6), (9, 0, v9), (10, 0, v10), (11, 1, v11), (13, 0, v13), (14, 0, v14)] [] m (fun r m1 => gh_F m1 ∧ Q r m1) := by
    intro c
    have h := hA c
    refine gh_pick (L2 := [(0, 2, 41), (1, 0, v1), (2, 0, v2), (3, 0, v3), (4, 0, v4), (5, 0, v5), (6, 0, v6), (9, 0, v9), (10, 0, v10), (11, 1, v11)]) [0, 1, 2, 3, 4, 5, 6, 7, 8, 9] rfl ?_
    exact hJ254 v11 m hF h
  have k1411 : ¬ (¬ (v14 ≤ v3) ∨ (v13 = 0)) → gh_T E (gh_yForest_countByRule.cls, prog_5_method_11_code, 19, false, 1) (d + 2) 181 [(0, 2, 41), (1, 0, v1), (2, 0, v2), (3, 0, v3), (4, 0, v4), (5, 0, v5), (6, 0, v6), (9, 0, v9), (10, 0, v10), (11, 1, v11), (13, 0, v13), (14, 0, v14)] [] m (fun r m1 => gh_F m1 ∧ Q r m1) := by
    intro c
    have h := hB c
    refine gh_aload_n gd_Forest_countByRule_181 0 rfl (by decide) ?_
    refine gf_41_5 gd_Forest_countByRule_182 gh_k408 hF ?_
    refine gh_iload gd_Forest_countByRule_185 6 rfl ?_
    refine gh_iload gd_Forest_countByRule_187 7 rfl ?_
    refine gh_iconst gd_Forest_countByRule_189 (gh_r0 rfl) ?_
    obtain ⟨q1412, h⟩ := h
    refine gh_iadd gd_Forest_countByRule_190 q1412 ?_
    refine gh_bipush gd_Forest_countByRule_191 (by decide) (gh_r0 rfl) ?_
    obtain ⟨q1413, h⟩ := h
    refine gh_imul gd_Forest_countByRule_193 q1413 ?_
    obtain ⟨q1414, h⟩ := h
    refine gh_iadd gd_Forest_countByRule_194 q1414 ?_
    refine gh_iload gd_Forest_countByRule_195 11 rfl ?_
    obtain ⟨q1415, h⟩ := h
    refine gh_iadd gd_Forest_countByRule_197 q1415 ?_
    obtain ⟨q1416, h⟩ := h
    obtain ⟨q1417, h⟩ := h
    refine la_43 gd_Forest_countByRule_198 hF q1416 q1417 rfl ?_
    refine gh_name (fun v15 hn => ?_)
    have h := h v15 hn
    refine gh_lstore (L2 := [(15, 1, v15), (0, 2, 41), (1, 0, v1), (2, 0, v2), (3, 0, v3), (4, 0, v4), (5, 0, v5), (6, 0, v6), (9, 0, v9), (10, 0, v10), (11, 1, v11), (13, 0, v13), (14, 0, v14)]) gd_Forest_countByRule_199 (by decide) rfl ?_
    refine gh_lload gd_Forest_countByRule_201 0 rfl ?_
    refine gh_lconst (n := 0) gd_Forest_countByRule_203 (by decide) (gh_r1 rfl) ?_
    refine gh_lcmp gd_Forest_countByRule_204 ?_
    obtain ⟨J248, hJ248, h⟩ := h
    have hJ248 : ∀ (v11' : Int) (m : gh_M), gh_F m → J248 v11' m → gh_T E (gh_yForest_countByRule.cls, prog_5_method_11_code, 19, false, 1) (d + 2) 248 [(0, 2, 41), (1, 0, v1), (2, 0, v2), (3, 0, v3), (4, 0, v4), (5, 0, v5), (6, 0, v6), (9, 0, v9), (10, 0, v10), (11, 1, v11'), (13, 0, v13), (14, 0, v14)] [] m (fun r m1 => gh_F m1 ∧ Q r m1) := by
      intro v11' m hF hj
      have h := hJ248 v11' m hj
      obtain ⟨q1418, h⟩ := h
      refine gh_iinc (L2 := [(14, 0, v14 + 1), (0, 2, 41), (1, 0, v1), (2, 0, v2), (3, 0, v3), (4, 0, v4), (5, 0, v5), (6, 0, v6), (9, 0, v9), (10, 0, v10), (11, 1, v11'), (13, 0, v13)]) gd_Forest_countByRule_248 11 rfl q1418 (by decide) rfl ?_
      refine gh_goto (tgt := 170) gd_Forest_countByRule_251 (by decide) ?_
      refine gh_pick (L2 := [(0, 2, 41), (1, 0, v1), (2, 0, v2), (3, 0, v3), (4, 0, v4), (5, 0, v5), (6, 0, v6), (9, 0, v9), (10, 0, v10), (11, 1, v11'), (13, 0, v13), (14, 0, v14 + 1)]) [1, 2, 3, 4, 5, 6, 7, 8, 9, 10, 11, 0] rfl ?_
      exact hK170 v11' (v14 + 1) m hF h
    obtain ⟨hA, hB⟩ := h
    refine gh_cle (tgt := 248) gd_Forest_countByRule_205 (by decide) (fun c1419 => ?_) (fun c1419 => ?_)
    · have h := hA c1419
      refine gh_pick (L2 := [(0, 2, 41), (1, 0, v1), (2, 0, v2), (3, 0, v3), (4, 0, v4), (5, 0, v5), (6, 0, v6), (9, 0, v9), (10, 0, v10), (11, 1, v11), (13, 0, v13), (14, 0, v14)]) [1, 2, 3, 4, 5, 6, 7, 8, 9, 10, 11, 12] rfl ?_
      exact hJ248 v11 m hF h
    · have h := hB c1419
      refine gh_aload_n gd_Forest_countByRule_208 1 rfl (by decide) ?_
      refine gh_aload_n gd_Forest_countByRule_209 1 rfl (by decide) ?_
      refine gf_41_0 gd_Forest_countByRule_210 gh_k403 hF ?_
      refine gh_iload_n gd_Forest_countByRule_213 2 rfl ?_
      refine gh_iload gd_Forest_countByRule_214 8 rfl ?_
      obtain ⟨q1420, h⟩ := h
      refine cv_Grammar_partAt (d := d + 1) gd_Forest_countByRule_216 gh_k1057 hF (Nat.le_of_ble_eq_true rfl) (gh_C.pe (e_Grammar_partAt (d + 1) v1 v9 hF q1420) ?_)
      refine gh_iload gd_Forest_countByRule_219 9 rfl ?_
      refine gh_iload gd_Forest_countByRule_221 12 rfl ?_
      refine gh_iload_n gd_Forest_countByRule_223 3 rfl ?_
      refine gh_iload_n gd_Forest_countByRule_224 4 rfl ?_
      refine gh_iload gd_Forest_countByRule_225 5 rfl ?_
      refine gh_iload gd_Forest_countByRule_227 6 rfl ?_
      refine cv_Forest_countOfPart (d := d + 1) gd_Forest_countByRule_229 gh_k1059 hF (Nat.le_of_ble_eq_true rfl) (gh_C.mono (s_Forest_countOfPart d REC hrec (x_Grammar_partAt v1 v9 m) v10 v14 v2 v3 v4 v5 hF h) (fun r1421 m1422 hq => ?_))
      obtain ⟨hF, h⟩ := hq
      refine gh_lstore (L2 := [(17, 1, r1421), (15, 1, v15), (0, 2, 41), (1, 0, v1), (2, 0, v2), (3, 0, v3), (4, 0, v4), (5, 0, v5), (6, 0, v6), (9, 0, v9), (10, 0, v10), (11, 1, v11), (13, 0, v13), (14, 0, v14)]) gd_Forest_countByRule_232 (by decide) rfl ?_
      refine gh_lload gd_Forest_countByRule_234 11 rfl ?_
      refine gh_lload gd_Forest_countByRule_236 0 rfl ?_
      refine gh_lload gd_Forest_countByRule_238 1 rfl ?_
      obtain ⟨q1423, h⟩ := h
      refine cv_Forest_times (d := d + 1) gd_Forest_countByRule_240 gh_k1065 (Nat.le_of_ble_eq_true rfl) (gh_C.pe (e_Forest_times d r1421 v15 q1423) ?_)
      obtain ⟨q1424, h⟩ := h
      refine cv_Forest_plus (d := d + 1) gd_Forest_countByRule_243 gh_k1072 (Nat.le_of_ble_eq_true rfl) (gh_C.pe (e_Forest_plus d v11 (x_Forest_times r1421 v15) q1424) ?_)
      refine gh_name (fun v11' hn => ?_)
      have h := h v11' hn
      refine gh_lstore (L2 := [(11, 1, v11'), (17, 1, r1421), (15, 1, v15), (0, 2, 41), (1, 0, v1), (2, 0, v2), (3, 0, v3), (4, 0, v4), (5, 0, v5), (6, 0, v6), (9, 0, v9), (10, 0, v10), (13, 0, v13), (14, 0, v14)]) gd_Forest_countByRule_246 (by decide) rfl ?_
      refine gh_pick (L2 := [(0, 2, 41), (1, 0, v1), (2, 0, v2), (3, 0, v3), (4, 0, v4), (5, 0, v5), (6, 0, v6), (9, 0, v9), (10, 0, v10), (11, 1, v11'), (13, 0, v13), (14, 0, v14)]) [3, 4, 5, 6, 7, 8, 9, 10, 11, 0, 12, 13] rfl ?_
      exact hJ248 v11' m1422 hF h
  refine gh_jgt (tgt := 254) gd_Forest_countByRule_173 (by decide) (fun c1425 => ?_) (fun c1425 => ?_)
  · have hz : True := trivial
    refine gh_iload gd_Forest_countByRule_176 10 rfl ?_
    refine gh_zeq (tgt := 254) gd_Forest_countByRule_178 (by decide) (fun c1426 => ?_) (fun c1426 => ?_)
    · have hz : True := trivial
      exact k1410 (Or.inr c1426)
    · have hz : True := trivial
      exact k1411 (fun z => z.elim (fun w => w c1425) c1426)
  · have hz : True := trivial
    exact k1410 (Or.inl c1425)
theorem b_Forest_countByRule_130 {E : gh_E} {v1 : Int} {v2 : Int} {v3 : Int} {v4 : Int} {v5 : Int} {v6 : Int} {v9 : Int} {K122 : Int → gh_M → Prop} {Q : Int → gh_M → Prop} {K130 : Int → gh_M → Prop} (d : Nat) (REC : Int → Int → Int → Int → Int → gh_M → (Int → gh_M → Prop) → Prop) (hrec : ∀ (a b c d0 e0 : Int) (m : gh_M) (Q : Int → gh_M → Prop), gh_F m → REC a b c d0 e0 m Q → gh_C E gh_yForest_countOf prog_5_method_7_code 10 (some .long) 1 (d + 0) [(2, 41), (0, a), (0, b), (0, c), (0, d0), (0, e0)] m (fun r m1 => gh_F m1 ∧ Q r m1)) (hK122 : ∀ (v9 : Int) (m : gh_M), gh_F m → K122 v9 m → gh_T E (gh_yForest_countByRule.cls, prog_5_method_11_code, 19, false, 1) (d + 2) 122 [(0, 2, 41), (1, 0, v1), (2, 0, v2), (3, 0, v3), (4, 0, v4), (5, 0, v5), (6, 0, v6), (9, 0, v9)] [] m (fun r m1 => gh_F m1 ∧ Q r m1)) (hK : ∀ (v10 : Int) (m : gh_M), gh_F m → K130 v10 m → gh_T E (gh_yForest_countByRule.cls, prog_5_method_11_code, 19, false, 1) (d + 2) 130 [(0, 2, 41), (1, 0, v1), (2, 0, v2), (3, 0, v3), (4, 0, v4), (5, 0, v5), (6, 0, v6), (9, 0, v9), (10, 0, v10)] [] m (fun r m1 => gh_F m1 ∧ Q r m1)) (v10 : Int) (m : gh_M) (hF : gh_F m) (h : f_Forest_countByRule_130 REC v1 v2 v3 v4 v5 v6 v9 K122 K130 v10 m) : gh_T E (gh_yForest_countByRule.cls, prog_5_method_11_code, 19, false, 1) (d + 2) 130 [(0, 2, 41), (1, 0, v1), (2, 0, v2), (3, 0, v3), (4, 0, v4), (5, 0, v5), (6, 0, v6), (9, 0, v9), (10, 0, v10)] [] m (fun r m1 => gh_F m1 ∧ Q r m1) := by
  have hK130 := hK
  unfold f_Forest_countByRule_130 at h
  refine gh_iload gd_Forest_countByRule_130 8 rfl ?_
  refine gh_iload_n gd_Forest_countByRule_132 3 rfl ?_
  obtain ⟨hA, hB⟩ := h
  refine gh_jgt (tgt := 278) gd_Forest_countByRule_133 (by decide) (fun c1397 => ?_) (fun c1397 => ?_)
  · have h := hA c1397
    refine gh_lconst (n := 0) gd_Forest_countByRule_136 (by decide) (gh_r1 rfl) ?_
    refine gh_lstore (L2 := [(11, 1, 0), (0, 2, 41), (1, 0, v1), (2, 0, v2), (3, 0, v3), (4, 0, v4), (5, 0, v5), (6, 0, v6), (9, 0, v9), (10, 0, v10)]) gd_Forest_countByRule_137 (by decide) rfl ?_
    refine gh_aload_n gd_Forest_countByRule_139 1 rfl (by decide) ?_
    refine gf_41_6 gd_Forest_countByRule_140 gh_k409 hF ?_
    refine gh_iload gd_Forest_countByRule_143 6 rfl ?_
    refine gh_iconst gd_Forest_countByRule_145 (gh_r0 rfl) ?_
    obtain ⟨q1398, h⟩ := h
    refine gh_imul gd_Forest_countByRule_146 q1398 ?_
    refine gh_iload gd_Forest_countByRule_147 8 rfl ?_
    obtain ⟨q1399, h⟩ := h
    refine gh_iadd gd_Forest_countByRule_149 q1399 ?_
    obtain ⟨q1400, h⟩ := h
    obtain ⟨q1401, h⟩ := h
    refine la_44 gd_Forest_countByRule_150 hF q1400 q1401 rfl ?_
    refine gh_iload gd_Forest_countByRule_151 9 rfl ?_
    refine gh_ishr gd_Forest_countByRule_153 ?_
    refine gh_iconst gd_Forest_countByRule_154 (gh_r0 rfl) ?_
    refine gh_iand gd_Forest_countByRule_155 ?_
    have k1402 : ∀ x1403 : Int, x1403 = (if (¬ ((gh_iand_f (gh_ishr_f (m 44 ((v5 * 4) + v9)) v10) 1) = 0)) then (1:Int) else 0) → gh_T E (gh_yForest_countByRule.cls, prog_5_method_11_code, 19, false, 1) (d + 2) 164 [(11, 1, 0), (0, 2, 41), (1, 0, v1), (2, 0, v2), (3, 0, v3), (4, 0, v4), (5, 0, v5), (6, 0, v6), (9, 0, v9), (10, 0, v10)] [(0, x1403)] m (fun r m1 => gh_F m1 ∧ Q r m1) := by
      rintro _ rfl
      refine gh_name (fun v13 hn => ?_)
      have h := h v13 hn
      refine gh_istore (L2 := [(13, 0, v13), (11, 1, 0), (0, 2, 41), (1, 0, v1), (2, 0, v2), (3, 0, v3), (4, 0, v4), (5, 0, v5), (6, 0, v6), (9, 0, v9), (10, 0, v10)]) gd_Forest_countByRule_164 (by decide) rfl ?_
      refine gh_iload gd_Forest_countByRule_166 10 rfl ?_
      refine gh_istore (L2 := [(14, 0, v10), (13, 0, v13), (11, 1, 0), (0, 2, 41), (1, 0, v1), (2, 0, v2), (3, 0, v3), (4, 0, v4), (5, 0, v5), (6, 0, v6), (9, 0, v9), (10, 0, v10)]) gd_Forest_countByRule_168 (by decide) rfl ?_
      refine gh_pick (L2 := [(0, 2, 41), (1, 0, v1), (2, 0, v2), (3, 0, v3), (4, 0, v4), (5, 0, v5), (6, 0, v6), (9, 0, v9), (10, 0, v10), (11, 1, 0), (13, 0, v13), (14, 0, v10)]) [3, 4, 5, 6, 7, 8, 9, 10, 11, 2, 1, 0] rfl ?_
      exact gh_M2_sound (T := fun v11 v14 m => gh_T E (gh_yForest_countByRule.cls, prog_5_method_11_code, 19, false, 1) (d + 2) 170 [(0, 2, 41), (1, 0, v1), (2, 0, v2), (3, 0, v3), (4, 0, v4), (5, 0, v5), (6, 0, v6), (9, 0, v9), (10, 0, v10), (11, 1, v11), (13, 0, v13), (14, 0, v14)] [] m (fun r m1 => gh_F m1 ∧ Q r m1)) (fun _ _ m => gh_F m) (fun K170 v11 v14 m hK hF h => b_Forest_countByRule_170 d REC hrec hK130 hK v11 v14 m hF h) 0 v10 m hF h
    refine gh_zeq (tgt := 163) gd_Forest_countByRule_156 (by decide) (fun c1427 => ?_) (fun c1427 => ?_)
    · have hz : True := trivial
      refine gh_iconst gd_Forest_countByRule_163 (gh_r0 rfl) ?_
      exact k1402 _ (if_neg (c := (¬ ((gh_iand_f (gh_ishr_f (m 44 ((v5 * 4) + v9)) v10) 1) = 0))) (not_not_intro c1427)).symm
    · have hz : True := trivial
      refine gh_iconst gd_Forest_countByRule_159 (gh_r0 rfl) ?_
      refine gh_goto (tgt := 164) gd_Forest_countByRule_160 (by decide) ?_
      exact k1402 _ (if_pos (c := (¬ ((gh_iand_f (gh_ishr_f (m 44 ((v5 * 4) + v9)) v10) 1) = 0))) c1427).symm
  · have h := hB c1397
    obtain ⟨q1428, h⟩ := h
    refine gh_iinc (L2 := [(9, 0, v9 + (-1)), (0, 2, 41), (1, 0, v1), (2, 0, v2), (3, 0, v3), (4, 0, v4), (5, 0, v5), (6, 0, v6), (10, 0, v10)]) gd_Forest_countByRule_278 7 rfl q1428 (by decide) rfl ?_
    refine gh_goto (tgt := 122) gd_Forest_countByRule_281 (by decide) ?_
    refine gh_pick (L2 := [(0, 2, 41), (1, 0, v1), (2, 0, v2), (3, 0, v3), (4, 0, v4), (5, 0, v5), (6, 0, v6), (9, 0, v9 + (-1))]) [1, 2, 3, 4, 5, 6, 7, 0] rfl ?_
    exact hK122 (v9 + (-1)) m hF h
theorem b_Forest_countByRule_122 {E : gh_E} {v1 : Int} {v2 : Int} {v3 : Int} {v4 : Int} {v5 : Int} {v6 : Int} {Q : Int → gh_M → Prop} {K122 : Int → gh_M → Prop} (d : Nat) (REC : Int → Int → Int → Int → Int → gh_M → (Int → gh_M → Prop) → Prop) (hrec : ∀ (a b c d0 e0 : Int) (m : gh_M) (Q : Int → gh_M → Prop), gh_F m → REC a b c d0 e0 m Q → gh_C E gh_yForest_countOf prog_5_method_7_code 10 (some .long) 1 (d + 0) [(2, 41), (0, a), (0, b), (0, c), (0, d0), (0, e0)] m (fun r m1 => gh_F m1 ∧ Q r m1)) (hK : ∀ (v9 : Int) (m : gh_M), gh_F m → K122 v9 m → gh_T E (gh_yForest_countByRule.cls, prog_5_method_11_code, 19, false, 1) (d + 2) 122 [(0, 2, 41), (1, 0, v1), (2, 0, v2), (3, 0, v3), (4, 0, v4), (5, 0, v5), (6, 0, v6), (9, 0, v9)] [] m (fun r m1 => gh_F m1 ∧ Q r m1)) (v9 : Int) (m : gh_M) (hF : gh_F m) (h : f_Forest_countByRule_122 REC v1 v2 v3 v4 v5 v6 Q K122 v9 m) : gh_T E (gh_yForest_countByRule.cls, prog_5_method_11_code, 19, false, 1) (d + 2) 122 [(0, 2, 41), (1, 0, v1), (2, 0, v2), (3, 0, v3), (4, 0, v4), (5, 0, v5), (6, 0, v6), (9, 0, v9)] [] m (fun r m1 => gh_F m1 ∧ Q r m1) := by
  have hK122 := hK
  unfold f_Forest_countByRule_122 at h
  refine gh_iload gd_Forest_countByRule_122 7 rfl ?_
  obtain ⟨hA, hB⟩ := h
  refine gh_zlt (tgt := 284) gd_Forest_countByRule_124 (by decide) (fun c1393 => ?_) (fun c1393 => ?_)
  · have h := hA c1393
    refine gh_aload_n gd_Forest_countByRule_284 0 rfl (by decide) ?_
    refine gf_41_5 gd_Forest_countByRule_285 gh_k408 hF ?_
    refine gh_iload gd_Forest_countByRule_288 6 rfl ?_
    refine gh_iload_n gd_Forest_countByRule_290 2 rfl ?_
    obtain ⟨q1394, h⟩ := h
    refine gh_iadd gd_Forest_countByRule_291 q1394 ?_
    obtain ⟨q1395, h⟩ := h
    obtain ⟨q1396, h⟩ := h
    refine la_43 gd_Forest_countByRule_292 hF q1395 q1396 rfl ?_
    exact gh_ret1 rfl gd_Forest_countByRule_293 ⟨hF, h⟩
  · have h := hB c1393
    refine gh_iload_n gd_Forest_countByRule_127 2 rfl ?_
    refine gh_istore (L2 := [(10, 0, v2), (0, 2, 41), (1, 0, v1), (2, 0, v2), (3, 0, v3), (4, 0, v4), (5, 0, v5), (6, 0, v6), (9, 0, v9)]) gd_Forest_countByRule_128 (by decide) rfl ?_
    refine gh_pick (L2 := [(0, 2, 41), (1, 0, v1), (2, 0, v2), (3, 0, v3), (4, 0, v4), (5, 0, v5), (6, 0, v6), (9, 0, v9), (10, 0, v2)]) [1, 2, 3, 4, 5, 6, 7, 8, 0] rfl ?_
    exact gh_M1_sound (T := fun v10 m => gh_T E (gh_yForest_countByRule.cls, prog_5_method_11_code, 19, false, 1) (d + 2) 130 [(0, 2, 41), (1, 0, v1), (2, 0, v2), (3, 0, v3), (4, 0, v4), (5, 0, v5), (6, 0, v6), (9, 0, v9), (10, 0, v10)] [] m (fun r m1 => gh_F m1 ∧ Q r m1)) (fun _ m => gh_F m) (fun K130 v10 m hK hF h => b_Forest_countByRule_130 d REC hrec hK122 hK v10 m hF h) v2 m hF h
theorem b_Forest_countByRule_77 {E : gh_E} {v1 : Int} {v2 : Int} {v3 : Int} {v4 : Int} {v5 : Int} {v6 : Int} {v7 : Int} {Q : Int → gh_M → Prop} {K77 : Int → gh_M → Prop} (d : Nat) (REC : Int → Int → Int → Int → Int → gh_M → (Int → gh_M → Prop) → Prop) (hrec : ∀ (a b c d0 e0 : Int) (m : gh_M) (Q : Int → gh_M → Prop), gh_F m → REC a b c d0 e0 m Q → gh_C E gh_yForest_countOf prog_5_method_7_code 10 (some .long) 1 (d + 0) [(2, 41), (0, a), (0, b), (0, c), (0, d0), (0, e0)] m (fun r m1 => gh_F m1 ∧ Q r m1)) (hK : ∀ (v9 : Int) (m : gh_M), gh_F m → K77 v9 m → gh_T E (gh_yForest_countByRule.cls, prog_5_method_11_code, 19, false, 1) (d + 2) 77 [(0, 2, 41), (1, 0, v1), (2, 0, v2), (3, 0, v3), (4, 0, v4), (5, 0, v5), (6, 0, v6), (7, 0, v7), (9, 0, v9)] [] m (fun r m1 => gh_F m1 ∧ Q r m1)) (v9 : Int) (m : gh_M) (hF : gh_F m) (h : f_Forest_countByRule_77 REC v1 v2 v3 v4 v5 v6 v7 Q K77 v9 m) : gh_T E (gh_yForest_countByRule.cls, prog_5_method_11_code, 19, false, 1) (d + 2) 77 [(0, 2, 41), (1, 0, v1), (2, 0, v2), (3, 0, v3), (4, 0, v4), (5, 0, v5), (6, 0, v6), (7, 0, v7), (9, 0, v9)] [] m (fun r m1 => gh_F m1 ∧ Q r m1) := by
  have hK77 := hK
  unfold f_Forest_countByRule_77 at h
  refine gh_iload gd_Forest_countByRule_77 8 rfl ?_
  refine gh_iload_n gd_Forest_countByRule_79 3 rfl ?_
  obtain ⟨hA, hB⟩ := h
  refine gh_jgt (tgt := 116) gd_Forest_countByRule_80 (by decide) (fun c1382 => ?_) (fun c1382 => ?_)
  · have h := hA c1382
    refine gh_aload_n gd_Forest_countByRule_83 0 rfl (by decide) ?_
    refine gf_41_5 gd_Forest_countByRule_84 gh_k408 hF ?_
    refine gh_iload gd_Forest_countByRule_87 6 rfl ?_
    refine gh_iload gd_Forest_countByRule_89 7 rfl ?_
    refine gh_bipush gd_Forest_countByRule_91 (by decide) (gh_r0 rfl) ?_
    obtain ⟨q1383, h⟩ := h
    refine gh_imul gd_Forest_countByRule_93 q1383 ?_
    obtain ⟨q1384, h⟩ := h
    refine gh_iadd gd_Forest_countByRule_94 q1384 ?_
    refine gh_iload gd_Forest_countByRule_95 8 rfl ?_
    obtain ⟨q1385, h⟩ := h
    refine gh_iadd gd_Forest_countByRule_97 q1385 ?_
    refine gh_iload gd_Forest_countByRule_98 8 rfl ?_
    refine gh_iload_n gd_Forest_countByRule_100 3 rfl ?_
    have k1386 : ∀ x1387 : Int, x1387 = (if (v9 = v3) then (1:Int) else 0) → gh_T E (gh_yForest_countByRule.cls, prog_5_method_11_code, 19, false, 1) (d + 2) 109 [(0, 2, 41), (1, 0, v1), (2, 0, v2), (3, 0, v3), (4, 0, v4), (5, 0, v5), (6, 0, v6), (7, 0, v7), (9, 0, v9)] [(1, x1387), (0, (v6 + (v7 * 9)) + v9), (2, 43)] m (fun r m1 => gh_F m1 ∧ Q r m1) := by
      rintro _ rfl
      obtain ⟨q1388, h⟩ := h
      obtain ⟨q1389, h⟩ := h
      refine sa_43 gd_Forest_countByRule_109 hF q1388 q1389 (fun hF => ?_)
      obtain ⟨q1390, h⟩ := h
      refine gh_iinc (L2 := [(9, 0, v9 + 1), (0, 2, 41), (1, 0, v1), (2, 0, v2), (3, 0, v3), (4, 0, v4), (5, 0, v5), (6, 0, v6), (7, 0, v7)]) gd_Forest_countByRule_110 8 rfl q1390 (by decide) rfl ?_
      refine gh_goto (tgt := 77) gd_Forest_countByRule_113 (by decide) ?_
      refine gh_pick (L2 := [(0, 2, 41), (1, 0, v1), (2, 0, v2), (3, 0, v3), (4, 0, v4), (5, 0, v5), (6, 0, v6), (7, 0, v7), (9, 0, v9 + 1)]) [1, 2, 3, 4, 5, 6, 7, 8, 0] rfl ?_
      exact hK77 (v9 + 1) (gh_u m 43 ((v6 + (v7 * 9)) + v9) (if (v9 = v3) then (1:Int) else 0)) hF h
    refine gh_jne (tgt := 108) gd_Forest_countByRule_101 (by decide) (fun c1391 => ?_) (fun c1391 => ?_)
    · have hz : True := trivial
      refine gh_lconst (n := 1) gd_Forest_countByRule_104 (by decide) (gh_r1 rfl) ?_
      refine gh_goto (tgt := 109) gd_Forest_countByRule_105 (by decide) ?_
      exact k1386 _ (if_pos (c := (v9 = v3)) c1391).symm
    · have hz : True := trivial
      refine gh_lconst (n := 0) gd_Forest_countByRule_108 (by decide) (gh_r1 rfl) ?_
      exact k1386 _ (if_neg (c := (v9 = v3)) c1391).symm
  · have h := hB c1382
    refine gh_iload gd_Forest_countByRule_116 7 rfl ?_
    refine gh_iconst gd_Forest_countByRule_118 (gh_r0 rfl) ?_
    obtain ⟨q1392, h⟩ := h
    refine gh_isub gd_Forest_countByRule_119 q1392 ?_
    refine gh_name (fun v9' hn => ?_)
    have h := h v9' hn
    refine gh_istore (L2 := [(9, 0, v9'), (0, 2, 41), (1, 0, v1), (2, 0, v2), (3, 0, v3), (4, 0, v4), (5, 0, v5), (6, 0, v6), (7, 0, v7)]) gd_Forest_countByRule_120 (by decide) rfl ?_
    refine gh_pick (L2 := [(0, 2, 41), (1, 0, v1), (2, 0, v2), (3, 0, v3), (4, 0, v4), (5, 0, v5), (6, 0, v6), (9, 0, v9')]) [1, 2, 3, 4, 5, 6, 7, 0] rfl ?_
    exact gh_M1_sound (T := fun v9 m => gh_T E (gh_yForest_countByRule.cls, prog_5_method_11_code, 19, false, 1) (d + 2) 122 [(0, 2, 41), (1, 0, v1), (2, 0, v2), (3, 0, v3), (4, 0, v4), (5, 0, v5), (6, 0, v6), (9, 0, v9)] [] m (fun r m1 => gh_F m1 ∧ Q r m1)) (fun _ m => gh_F m) (fun K122 v9 m hK hF h => b_Forest_countByRule_122 d REC hrec hK v9 m hF h) v9' m hF h
theorem b_Forest_countByRule_26 {E : gh_E} {v1 : Int} {v2 : Int} {v3 : Int} {v4 : Int} {v5 : Int} {v6 : Int} {v7 : Int} {Q : Int → gh_M → Prop} {K26 : Int → Int → gh_M → Prop} (d : Nat) (REC : Int → Int → Int → Int → Int → gh_M → (Int → gh_M → Prop) → Prop) (hrec : ∀ (a b c d0 e0 : Int) (m : gh_M) (Q : Int → gh_M → Prop), gh_F m → REC a b c d0 e0 m Q → gh_C E gh_yForest_countOf prog_5_method_7_code 10 (some .long) 1 (d + 0) [(2, 41), (0, a), (0, b), (0, c), (0, d0), (0, e0)] m (fun r m1 => gh_F m1 ∧ Q r m1)) (hK : ∀ (v8 : Int) (v9 : Int) (m : gh_M), gh_F m → K26 v8 v9 m → gh_T E (gh_yForest_countByRule.cls, prog_5_method_11_code, 19, false, 1) (d + 2) 26 [(0, 2, 41), (1, 0, v1), (2, 0, v2), (3, 0, v3), (4, 0, v4), (5, 0, v5), (6, 0, v6), (7, 0, v7), (8, 0, v8), (9, 0, v9)] [] m (fun r m1 => gh_F m1 ∧ Q r m1)) (v8 : Int) (v9 : Int) (m : gh_M) (hF : gh_F m) (h : f_Forest_countByRule_26 REC v1 v2 v3 v4 v5 v6 v7 Q K26 v8 v9 m) : gh_T E (gh_yForest_countByRule.cls, prog_5_method_11_code, 19, false, 1) (d + 2) 26 [(0, 2, 41), (1, 0, v1), (2, 0, v2), (3, 0, v3), (4, 0, v4), (5, 0, v5), (6, 0, v6), (7, 0, v7), (8, 0, v8), (9, 0, v9)] [] m (fun r m1 => gh_F m1 ∧ Q r m1) := by
  have hK26 := hK
  unfold f_Forest_countByRule_26 at h
  refine gh_iload gd_Forest_countByRule_26 9 rfl ?_
  refine gh_iload gd_Forest_countByRule_28 7 rfl ?_
  obtain ⟨hA, hB⟩ := h
  refine gh_jge (tgt := 74) gd_Forest_countByRule_30 (by decide) (fun c1373 => ?_) (fun c1373 => ?_)
  · have h := hA c1373
    refine gh_aload_n gd_Forest_countByRule_33 0 rfl (by decide) ?_
    refine gf_41_6 gd_Forest_countByRule_34 gh_k409 hF ?_
    refine gh_iload gd_Forest_countByRule_37 5 rfl ?_
    refine gh_iconst gd_Forest_countByRule_39 (gh_r0 rfl) ?_
    obtain ⟨q1374, h⟩ := h
    refine gh_imul gd_Forest_countByRule_40 q1374 ?_
    refine gh_iload gd_Forest_countByRule_41 9 rfl ?_
    obtain ⟨q1375, h⟩ := h
    refine gh_iadd gd_Forest_countByRule_43 q1375 ?_
    refine gh_iload gd_Forest_countByRule_44 8 rfl ?_
    obtain ⟨q1376, h⟩ := h
    obtain ⟨q1377, h⟩ := h
    refine sa_44 gd_Forest_countByRule_46 hF q1376 q1377 (fun hF => ?_)
    refine gh_aload_n gd_Forest_countByRule_47 0 rfl (by decide) ?_
    refine gf_41_3 gd_Forest_countByRule_48 gh_k406 hF ?_
    refine gh_aload_n gd_Forest_countByRule_51 0 rfl (by decide) ?_
    refine gf_41_0 gd_Forest_countByRule_52 gh_k403 hF ?_
    refine gh_iload_n gd_Forest_countByRule_55 1 rfl ?_
    refine gh_iload gd_Forest_countByRule_56 9 rfl ?_
    obtain ⟨q1378, h⟩ := h
    refine cv_Grammar_partAt (d := d + 1) gd_Forest_countByRule_58 gh_k1057 hF (Nat.le_of_ble_eq_true rfl) (gh_C.pe (e_Grammar_partAt (d + 1) v1 v9 hF q1378) ?_)
    refine gh_iload gd_Forest_countByRule_61 8 rfl ?_
    refine cv_Chart_beyond (d := d + 1) gd_Forest_countByRule_63 gh_k1058 hF (Nat.le_of_ble_eq_true rfl) (gh_C.pw (s_Chart_beyond d (x_Grammar_partAt v1 v9 (gh_u m 44 ((v5 * 4) + v9) v8)) v8 hF h) (fun r1379 h => ?_))
    refine gh_istore (L2 := [(8, 0, r1379), (0, 2, 41), (1, 0, v1), (2, 0, v2), (3, 0, v3), (4, 0, v4), (5, 0, v5), (6, 0, v6), (7, 0, v7), (9, 0, v9)]) gd_Forest_countByRule_66 (by decide) rfl ?_
    obtain ⟨q1381, h⟩ := h
    refine gh_iinc (L2 := [(9, 0, v9 + 1), (8, 0, r1379), (0, 2, 41), (1, 0, v1), (2, 0, v2), (3, 0, v3), (4, 0, v4), (5, 0, v5), (6, 0, v6), (7, 0, v7)]) gd_Forest_countByRule_68 9 rfl q1381 (by decide) rfl ?_
    refine gh_goto (tgt := 26) gd_Forest_countByRule_71 (by decide) ?_
    refine gh_pick (L2 := [(0, 2, 41), (1, 0, v1), (2, 0, v2), (3, 0, v3), (4, 0, v4), (5, 0, v5), (6, 0, v6), (7, 0, v7), (8, 0, r1379), (9, 0, v9 + 1)]) [2, 3, 4, 5, 6, 7, 8, 9, 1, 0] rfl ?_
    exact hK26 r1379 (v9 + 1) (gh_u m 44 ((v5 * 4) + v9) v8) hF h
  · have h := hB c1373
    refine gh_iload_n gd_Forest_countByRule_74 2 rfl ?_
    refine gh_istore (L2 := [(9, 0, v2), (0, 2, 41), (1, 0, v1), (2, 0, v2), (3, 0, v3), (4, 0, v4), (5, 0, v5), (6, 0, v6), (7, 0, v7), (8, 0, v8)]) gd_Forest_countByRule_75 (by decide) rfl ?_
    refine gh_pick (L2 := [(0, 2, 41), (1, 0, v1), (2, 0, v2), (3, 0, v3), (4, 0, v4), (5, 0, v5), (6, 0, v6), (7, 0, v7), (9, 0, v2)]) [1, 2, 3, 4, 5, 6, 7, 8, 0] rfl ?_
    exact gh_M1_sound (T := fun v9 m => gh_T E (gh_yForest_countByRule.cls, prog_5_method_11_code, 19, false, 1) (d + 2) 77 [(0, 2, 41), (1, 0, v1), (2, 0, v2), (3, 0, v3), (4, 0, v4), (5, 0, v5), (6, 0, v6), (7, 0, v7), (9, 0, v9)] [] m (fun r m1 => gh_F m1 ∧ Q r m1)) (fun _ m => gh_F m) (fun K77 v9 m hK hF h => b_Forest_countByRule_77 d REC hrec hK v9 m hF h) v2 m hF h
theorem s_Forest_countByRule {E : gh_E} {m : gh_M} {Q : Int → gh_M → Prop} (d : Nat) (REC : Int → Int → Int → Int → Int → gh_M → (Int → gh_M → Prop) → Prop) (hrec : ∀ (a b c d0 e0 : Int) (m : gh_M) (Q : Int → gh_M → Prop), gh_F m → REC a b c d0 e0 m Q → gh_C E gh_yForest_countOf prog_5_method_7_code 10 (some .long) 1 (d + 0) [(2, 41), (0, a), (0, b), (0, c), (0, d0), (0, e0)] m (fun r m1 => gh_F m1 ∧ Q r m1)) (v1 : Int) (v2 : Int) (v3 : Int) (v4 : Int) (v5 : Int) (hF : gh_F m) (h : w_Forest_countByRule REC v1 v2 v3 v4 v5 m Q) : gh_C E gh_yForest_countByRule prog_5_method_11_code 19 (some .long) 1 (d + 2) [(2, 41), (0, v1), (0, v2), (0, v3), (0, v4), (0, v5)] m (fun r m1 => gh_F m1 ∧ Q r m1) := by
  refine gh_enter2 (L := [(0, 2, 41), (1, 0, v1), (2, 0, v2), (3, 0, v3), (4, 0, v4), (5, 0, v5)]) (by decide +kernel) gh_rt1 (Nat.le_of_ble_eq_true rfl) rfl rfl ?_
  unfold w_Forest_countByRule at h
  refine gh_iload gd_Forest_countByRule_0 5 rfl ?_
  refine gh_bipush gd_Forest_countByRule_2 (by decide) (gh_r0 rfl) ?_
  obtain ⟨q1370, h⟩ := h
  refine gh_imul gd_Forest_countByRule_4 q1370 ?_
  refine gh_name (fun v6 hn => ?_)
  have h := h v6 hn
  refine gh_istore (L2 := [(6, 0, v6), (0, 2, 41), (1, 0, v1), (2, 0, v2), (3, 0, v3), (4, 0, v4), (5, 0, v5)]) gd_Forest_countByRule_5 (by decide) rfl ?_
  refine gh_aload_n gd_Forest_countByRule_7 1 rfl (by decide) ?_
  refine gf_41_0 gd_Forest_countByRule_8 gh_k403 hF ?_
  refine gf_13_6 gd_Forest_countByRule_11 gh_k211 hF ?_
  refine gh_iload_n gd_Forest_countByRule_14 2 rfl ?_
  obtain ⟨q1371, h⟩ := h
  obtain ⟨q1372, h⟩ := h
  refine la_17 gd_Forest_countByRule_15 hF q1371 q1372 rfl ?_
  refine gh_name (fun v7 hn => ?_)
  have h := h v7 hn
  refine gh_istore (L2 := [(7, 0, v7), (6, 0, v6), (0, 2, 41), (1, 0, v1), (2, 0, v2), (3, 0, v3), (4, 0, v4), (5, 0, v5)]) gd_Forest_countByRule_16 (by decide) rfl ?_
  refine gh_iconst gd_Forest_countByRule_18 (gh_r0 rfl) ?_
  refine gh_iload_n gd_Forest_countByRule_19 4 rfl ?_
  refine gh_ishl gd_Forest_countByRule_20 ?_
  refine gh_name (fun v8 hn => ?_)
  have h := h v8 hn
  refine gh_istore (L2 := [(8, 0, v8), (7, 0, v7), (6, 0, v6), (0, 2, 41), (1, 0, v1), (2, 0, v2), (3, 0, v3), (4, 0, v4), (5, 0, v5)]) gd_Forest_countByRule_21 (by decide) rfl ?_
  refine gh_iconst gd_Forest_countByRule_23 (gh_r0 rfl) ?_
  refine gh_istore (L2 := [(9, 0, 0), (8, 0, v8), (7, 0, v7), (6, 0, v6), (0, 2, 41), (1, 0, v1), (2, 0, v2), (3, 0, v3), (4, 0, v4), (5, 0, v5)]) gd_Forest_countByRule_24 (by decide) rfl ?_
  refine gh_pick (L2 := [(0, 2, 41), (1, 0, v1), (2, 0, v2), (3, 0, v3), (4, 0, v4), (5, 0, v5), (6, 0, v6), (7, 0, v7), (8, 0, v8), (9, 0, 0)]) [4, 5, 6, 7, 8, 9, 3, 2, 1, 0] rfl ?_
  exact gh_M2_sound (T := fun v8 v9 m => gh_T E (gh_yForest_countByRule.cls, prog_5_method_11_code, 19, false, 1) (d + 2) 26 [(0, 2, 41), (1, 0, v1), (2, 0, v2), (3, 0, v3), (4, 0, v4), (5, 0, v5), (6, 0, v6), (7, 0, v7), (8, 0, v8), (9, 0, v9)] [] m (fun r m1 => gh_F m1 ∧ Q r m1)) (fun _ _ m => gh_F m) (fun K26 v8 v9 m hK hF h => b_Forest_countByRule_26 d REC hrec hK v8 v9 m hF h) v8 0 m hF h
def w_Forest_keep (v1 : Int) (v2 : Int) (v3 : Int) (v4 : Int) (v5 : Int) (m : gh_M) (Q : Int → gh_M → Prop) : Prop := ((v4 = 0 → (gh_i (v1 * 9) ∧ gh_i ((v1 * 9) + v2) ∧ gh_i (((v1 * 9) + v2) * 9) ∧ gh_i ((((v1 * 9) + v2) * 9) + v3)) ∧ 0 ≤ ((((v1 * 9) + v2) * 9) + v3) ∧ (((((v1 * 9) + v2) * 9) + v3)) < 648 ∧ Q 0 (gh_u m 42 (((((v1 * 9) + v2) * 9) + v3)) v5)) ∧ (¬ (v4 = 0) → gh_isA m (m 41 7) 3 ∧ ∃ J45 : gh_M → Prop, (∀ (m : gh_M), J45 m → (((v2 = v3) → (gh_i (0 + v1) ∧ gh_i ((0 + v1) * 256) ∧ gh_i (((0 + v1) * 256) + v4))) ∧ (¬ (v2 = v3) → (gh_i (8 + v1) ∧ gh_i ((8 + v1) * 256) ∧ gh_i (((8 + v1) * 256) + v4)))) ∧ ∀ v7 : Int, v7 = (if v2 = v3 then (((0 + v1) * 256) + v4) else (((8 + v1) * 256) + v4)) → gh_isA m (m 41 7) 3 ∧ 0 ≤ v7 ∧ v7 < m 0 (2 * (m 41 7) + 1) ∧ gh_isA (gh_u m (m 41 7) v7 v5) ((gh_u m (m 41 7) v7 v5) 41 8) 1 ∧ 0 ≤ v7 ∧ v7 < (gh_u m (m 41 7) v7 v5) 0 (2 * ((gh_u m (m 41 7) v7 v5) 41 8) + 1) ∧ Q 0 (gh_u (gh_u m (m 41 7) v7 v5) ((gh_u m (m 41 7) v7 v5) 41 8) v7 (if v2 = v3 then ((gh_u m (m 41 7) v7 v5) 41 10) else ((gh_u m (m 41 7) v7 v5) 41 9)))) ∧ (((m 0 (2 * (m 41 7) + 1)) = 0 → J45 (gh_u (gh_al (gh_u (gh_al m 3 4096) 41 7 (m 0 1)) 1 4096) 41 8 ((gh_u (gh_al m 3 4096) 41 7 (m 0 1)) 0 1))) ∧ (¬ ((m 0 (2 * (m 41 7) + 1)) = 0) → J45 m))))
theorem s_Forest_keep {E : gh_E} {m : gh_M} {Q : Int → gh_M → Prop} (d : Nat) (v1 : Int) (v2 : Int) (v3 : Int) (v4 : Int) (v5 : Int) (hF : gh_F m) (h : w_Forest_keep v1 v2 v3 v4 v5 m Q) : gh_C E gh_yForest_keep prog_5_method_9_code 8 none 9 (d + 1) [(2, 41), (0, v1), (0, v2), (0, v3), (0, v4), (1, v5)] m (fun r m1 => gh_F m1 ∧ Q r m1) := by
  refine gh_enter2 (L := [(0, 2, 41), (1, 0, v1), (2, 0, v2), (3, 0, v3), (4, 0, v4), (5, 1, v5)]) (by decide +kernel) gh_rt9 (Nat.le_of_ble_eq_true rfl) rfl rfl ?_
  unfold w_Forest_keep at h
  refine gh_iload gd_Forest_keep_0 4 rfl ?_
  obtain ⟨hA, hB⟩ := h
  refine gh_zne (tgt := 19) gd_Forest_keep_2 (by decide) (fun c1429 => ?_) (fun c1429 => ?_)
  · have h := hA c1429
    refine gh_aload_n gd_Forest_keep_5 0 rfl (by decide) ?_
    refine gf_41_4 gd_Forest_keep_6 gh_k407 hF ?_
    refine gh_iload_n gd_Forest_keep_9 1 rfl ?_
    refine gh_iload_n gd_Forest_keep_10 2 rfl ?_
    refine gh_iload_n gd_Forest_keep_11 3 rfl ?_
    obtain ⟨q1430, h⟩ := h
    refine cv_Forest_plainAt (d := d) gd_Forest_keep_12 gh_k1036 (Nat.le_of_ble_eq_true rfl) (gh_C.pe (e_Forest_plainAt d v1 v2 v3 q1430) ?_)
    refine gh_lload gd_Forest_keep_15 5 rfl ?_
    obtain ⟨q1431, h⟩ := h
    obtain ⟨q1432, h⟩ := h
    refine sa_42 gd_Forest_keep_17 hF q1431 q1432 (fun hF => ?_)
    exact gh_ret9 rfl gd_Forest_keep_18 ⟨hF, h⟩
  · have h := hB c1429
    refine gh_aload_n gd_Forest_keep_19 0 rfl (by decide) ?_
    refine gf_41_7 gd_Forest_keep_20 gh_k410 hF rfl ?_
    obtain ⟨q1433, h⟩ := h
    refine gh_alen gd_Forest_keep_23 q1433 (by decide) ?_
    obtain ⟨J45, hJ45, h⟩ := h
    have hJ45 : ∀ (m : gh_M), gh_F m → J45 m → gh_T E (gh_yForest_keep.cls, prog_5_method_9_code, 8, false, 9) (d + 1) 45 [(0, 2, 41), (1, 0, v1), (2, 0, v2), (3, 0, v3), (4, 0, v4), (5, 1, v5)] [] m (fun r m1 => gh_F m1 ∧ Q r m1) := by
      intro m hF hj
      have h := hJ45 m hj
      refine gh_iload_n gd_Forest_keep_45 1 rfl ?_
      refine gh_iload_n gd_Forest_keep_46 2 rfl ?_
      refine gh_iload_n gd_Forest_keep_47 3 rfl ?_
      refine gh_iload gd_Forest_keep_48 4 rfl ?_
      obtain ⟨q1434, h⟩ := h
      refine cv_Forest_underAt (d := d) gd_Forest_keep_50 gh_k1049 (Nat.le_of_ble_eq_true rfl) (gh_C.pe (e_Forest_underAt d v1 v2 v3 v4 q1434) ?_)
      refine gh_name (fun v7 hn => ?_)
      have h := h v7 hn
      refine gh_istore (L2 := [(7, 0, v7), (0, 2, 41), (1, 0, v1), (2, 0, v2), (3, 0, v3), (4, 0, v4), (5, 1, v5)]) gd_Forest_keep_53 (by decide) rfl ?_
      refine gh_aload_n gd_Forest_keep_55 1 rfl (by decide) ?_
      refine gf_41_7 gd_Forest_keep_56 gh_k410 hF rfl ?_
      refine gh_iload gd_Forest_keep_59 0 rfl ?_
      refine gh_lload gd_Forest_keep_61 6 rfl ?_
      obtain ⟨q1435, h⟩ := h
      obtain ⟨q1436, h⟩ := h
      obtain ⟨q1437, h⟩ := h
      refine gh_lastF gd_Forest_keep_63 hF q1435 q1436 q1437 (fun hF => ?_)
      refine gh_aload_n gd_Forest_keep_64 1 rfl (by decide) ?_
      refine gf_41_8 gd_Forest_keep_65 gh_k411 hF rfl ?_
      refine gh_iload gd_Forest_keep_68 0 rfl ?_
      refine gh_iload_n gd_Forest_keep_70 3 rfl ?_
      refine gh_iload_n gd_Forest_keep_71 4 rfl ?_
      have k1438 : ∀ x1439 : Int, x1439 = (if v2 = v3 then ((gh_u m (m 41 7) v7 v5) 41 10) else ((gh_u m (m 41 7) v7 v5) 41 9)) → gh_T E (gh_yForest_keep.cls, prog_5_method_9_code, 8, false, 9) (d + 1) 86 [(7, 0, v7), (0, 2, 41), (1, 0, v1), (2, 0, v2), (3, 0, v3), (4, 0, v4), (5, 1, v5)] [(0, x1439), (0, v7), (2, (gh_u m (m 41 7) v7 v5) 41 8)] (gh_u m (m 41 7) v7 v5) (fun r m1 => gh_F m1 ∧ Q r m1) := by
        rintro _ rfl
        obtain ⟨q1440, h⟩ := h
        obtain ⟨q1441, h⟩ := h
        obtain ⟨q1442, h⟩ := h
        refine gh_iastF gd_Forest_keep_86 hF q1440 q1441 q1442 (fun hF => ?_)
        exact gh_ret9 rfl gd_Forest_keep_87 ⟨hF, h⟩
      refine gh_jne (tgt := 82) gd_Forest_keep_72 (by decide) (fun c1443 => ?_) (fun c1443 => ?_)
      · have hz : True := trivial
        refine gh_aload_n gd_Forest_keep_75 1 rfl (by decide) ?_
        refine gf_41_10 gd_Forest_keep_76 gh_k413 hF rfl ?_
        refine gh_goto (tgt := 86) gd_Forest_keep_79 (by decide) ?_
        exact k1438 _ (by rw [if_pos c1443])
      · have hz : True := trivial
        refine gh_aload_n gd_Forest_keep_82 1 rfl (by decide) ?_
        refine gf_41_9 gd_Forest_keep_83 gh_k412 hF rfl ?_
        exact k1438 _ (by rw [if_neg c1443])
    obtain ⟨hA, hB⟩ := h
    refine gh_zne (tgt := 45) gd_Forest_keep_24 (by decide) (fun c1444 => ?_) (fun c1444 => ?_)
    · have h := hA c1444
      refine gh_aload_n gd_Forest_keep_27 0 rfl (by decide) ?_
      refine gh_sipush gd_Forest_keep_28 (by decide) (gh_r0 rfl) ?_
      refine gh_newarrF (κ := 3) gd_Forest_keep_31 (by decide) gh_k440 (by decide) (by decide) hF (fun hF => ?_)
      refine pf_41_7 gd_Forest_keep_33 gh_k410 hF (fun hF => ?_)
      refine gh_aload_n gd_Forest_keep_36 0 rfl (by decide) ?_
      refine gh_sipush gd_Forest_keep_37 (by decide) (gh_r0 rfl) ?_
      refine gh_newarrF (κ := 1) gd_Forest_keep_40 (by decide) gh_k104 (by decide) (by decide) hF (fun hF => ?_)
      refine pf_41_8 gd_Forest_keep_42 gh_k411 hF (fun hF => ?_)
      exact hJ45 (gh_u (gh_al (gh_u (gh_al m 3 4096) 41 7 (m 0 1)) 1 4096) 41 8 ((gh_u (gh_al m 3 4096) 41 7 (m 0 1)) 0 1)) hF h
    · have h := hB c1444
      exact hJ45 m hF h
def f_Forest_countOf_80 (REC : Int → Int → Int → Int → Int → gh_M → (Int → gh_M → Prop) → Prop) (v1 : Int) (v2 : Int) (v3 : Int) (v5 : Int) (v6 : Int) (Q : Int → gh_M → Prop) (K80 : Int → Int → gh_M → Prop) (v7 : Int) (v9 : Int) (m : gh_M) : Prop := k_Grammar_behindRules v1 m ∧ ((v9 < (x_Grammar_behindRules v1 m) → w_Forest_countByRule REC v9 v2 v3 (gh_ior_f v6 (gh_ishl_f 1 v1)) v5 m (fun r1457 m1458 => k_Forest_plus v7 r1457 ∧ ∀ v7' : Int, v7' = x_Forest_plus v7 r1457 → gh_i (v9 + 1) ∧ K80 v7' (v9 + 1) m1458)) ∧ (¬ (v9 < (x_Grammar_behindRules v1 m)) → w_Forest_keep v1 v2 v3 v6 v7 m (fun _ m1462 => Q v7 m1462)))
def w_Forest_countOf (REC : Int → Int → Int → Int → Int → gh_M → (Int → gh_M → Prop) → Prop) (v1 : Int) (v2 : Int) (v3 : Int) (v4 : Int) (v5 : Int) (m : gh_M) (Q : Int → gh_M → Prop) : Prop := ((((gh_iand_f (gh_ishr_f v4 v1) 1) = 0) → (((v5 < 8) → (k_Chart_covers v1 v2 v3))))) ∧ (((((gh_iand_f (gh_ishr_f v4 v1) 1) = 0) ∧ ((v5 < 8) ∧ (p_Chart_covers v1 v2 v3 m))) → 0 ≤ v1 ∧ v1 < 8 ∧ ∀ v6 : Int, v6 = gh_iand_f v4 (m 24 v1) → w_Forest_recall v1 v2 v3 v6 m (fun r1450 => ((r1450 < 0 → 0 ≤ v1 ∧ v1 < 8 ∧ ∀ v9 : Int, v9 = m 14 v1 → gh_M2 (fun K80 v7 v9 m => f_Forest_countOf_80 REC v1 v2 v3 v5 v6 Q K80 v7 v9 m) 0 v9 m) ∧ (¬ (r1450 < 0) → Q r1450 m)))) ∧ (¬ (((gh_iand_f (gh_ishr_f v4 v1) 1) = 0) ∧ ((v5 < 8) ∧ (p_Chart_covers v1 v2 v3 m))) → Q 0 m))
theorem b_Forest_countOf_80 {E : gh_E} {v1 : Int} {v2 : Int} {v3 : Int} {v5 : Int} {v6 : Int} {Q : Int → gh_M → Prop} {K80 : Int → Int → gh_M → Prop} (d : Nat) (REC : Int → Int → Int → Int → Int → gh_M → (Int → gh_M → Prop) → Prop) (hrec : ∀ (a b c d0 e0 : Int) (m : gh_M) (Q : Int → gh_M → Prop), gh_F m → REC a b c d0 e0 m Q → gh_C E gh_yForest_countOf prog_5_method_7_code 10 (some .long) 1 (d + 0) [(2, 41), (0, a), (0, b), (0, c), (0, d0), (0, e0)] m (fun r m1 => gh_F m1 ∧ Q r m1)) (hK : ∀ (v7 : Int) (v9 : Int) (m : gh_M), gh_F m → K80 v7 v9 m → gh_T E (gh_yForest_countOf.cls, prog_5_method_7_code, 10, false, 1) (d + 3) 80 [(0, 2, 41), (1, 0, v1), (2, 0, v2), (3, 0, v3), (5, 0, v5), (6, 0, v6), (7, 1, v7), (9, 0, v9)] [] m (fun r m1 => gh_F m1 ∧ Q r m1)) (v7 : Int) (v9 : Int) (m : gh_M) (hF : gh_F m) (h : f_Forest_countOf_80 REC v1 v2 v3 v5 v6 Q K80 v7 v9 m) : gh_T E (gh_yForest_countOf.cls, prog_5_method_7_code, 10, false, 1) (d + 3) 80 [(0, 2, 41), (1, 0, v1), (2, 0, v2), (3, 0, v3), (5, 0, v5), (6, 0, v6), (7, 1, v7), (9, 0, v9)] [] m (fun r m1 => gh_F m1 ∧ Q r m1) := by
  have hK80 := hK
  unfold f_Forest_countOf_80 at h
  refine gh_iload gd_Forest_countOf_80 7 rfl ?_
  refine gh_aload_n gd_Forest_countOf_82 0 rfl (by decide) ?_
  refine gf_41_0 gd_Forest_countOf_83 gh_k403 hF ?_
  refine gh_iload_n gd_Forest_countOf_86 1 rfl ?_
  obtain ⟨q1455, h⟩ := h
  refine cv_Grammar_behindRules (d := d + 2) gd_Forest_countOf_87 gh_k1052 hF (Nat.le_of_ble_eq_true rfl) (gh_C.pe (e_Grammar_behindRules (d + 2) v1 hF q1455) ?_)
  obtain ⟨hA, hB⟩ := h
  refine gh_jge (tgt := 122) gd_Forest_countOf_90 (by decide) (fun c1456 => ?_) (fun c1456 => ?_)
  · have h := hA c1456
    refine gh_lload gd_Forest_countOf_93 6 rfl ?_
    refine gh_aload_n gd_Forest_countOf_95 0 rfl (by decide) ?_
    refine gh_iload gd_Forest_countOf_96 7 rfl ?_
    refine gh_iload_n gd_Forest_countOf_98 2 rfl ?_
    refine gh_iload_n gd_Forest_countOf_99 3 rfl ?_
    refine gh_iload gd_Forest_countOf_100 5 rfl ?_
    refine gh_iconst gd_Forest_countOf_102 (gh_r0 rfl) ?_
    refine gh_iload_n gd_Forest_countOf_103 1 rfl ?_
    refine gh_ishl gd_Forest_countOf_104 ?_
    refine gh_ior gd_Forest_countOf_105 ?_
    refine gh_iload gd_Forest_countOf_106 4 rfl ?_
    refine cv_Forest_countByRule (d := d + 2) gd_Forest_countOf_108 gh_k1053 hF (Nat.le_of_ble_eq_true rfl) (gh_C.mono (s_Forest_countByRule d REC hrec v9 v2 v3 (gh_ior_f v6 (gh_ishl_f 1 v1)) v5 hF h) (fun r1457 m1458 hq => ?_))
    obtain ⟨hF, h⟩ := hq
    obtain ⟨q1459, h⟩ := h
    refine cv_Forest_plus (d := d + 2) gd_Forest_countOf_111 gh_k1072 (Nat.le_of_ble_eq_true rfl) (gh_C.pe (e_Forest_plus (d + 1) v7 r1457 q1459) ?_)
    refine gh_name (fun v7' hn => ?_)
    have h := h v7' hn
    refine gh_lstore (L2 := [(7, 1, v7'), (0, 2, 41), (1, 0, v1), (2, 0, v2), (3, 0, v3), (5, 0, v5), (6, 0, v6), (9, 0, v9)]) gd_Forest_countOf_114 (by decide) rfl ?_
    obtain ⟨q1460, h⟩ := h
    refine gh_iinc (L2 := [(9, 0, v9 + 1), (7, 1, v7'), (0, 2, 41), (1, 0, v1), (2, 0, v2), (3, 0, v3), (5, 0, v5), (6, 0, v6)]) gd_Forest_countOf_116 7 rfl q1460 (by decide) rfl ?_
    refine gh_goto (tgt := 80) gd_Forest_countOf_119 (by decide) ?_
    refine gh_pick (L2 := [(0, 2, 41), (1, 0, v1), (2, 0, v2), (3, 0, v3), (5, 0, v5), (6, 0, v6), (7, 1, v7'), (9, 0, v9 + 1)]) [2, 3, 4, 5, 6, 7, 1, 0] rfl ?_
    exact hK80 v7' (v9 + 1) m1458 hF h
  · have h := hB c1456
    refine gh_aload_n gd_Forest_countOf_122 0 rfl (by decide) ?_
    refine gh_iload_n gd_Forest_countOf_123 1 rfl ?_
    refine gh_iload_n gd_Forest_countOf_124 2 rfl ?_
    refine gh_iload_n gd_Forest_countOf_125 3 rfl ?_
    refine gh_iload gd_Forest_countOf_126 5 rfl ?_
    refine gh_lload gd_Forest_countOf_128 6 rfl ?_
    refine cv_Forest_keep (d := d + 2) gd_Forest_countOf_130 gh_k1075 hF (Nat.le_of_ble_eq_true rfl) (gh_C.mono (s_Forest_keep (d + 1) v1 v2 v3 v6 v7 hF h) (fun r1461 m1462 hq => ?_))
    obtain ⟨hF, h⟩ := hq
    refine gh_lload gd_Forest_countOf_133 6 rfl ?_
    exact gh_ret1 rfl gd_Forest_countOf_135 ⟨hF, h⟩
theorem s_Forest_countOf {E : gh_E} {m : gh_M} {Q : Int → gh_M → Prop} (d : Nat) (REC : Int → Int → Int → Int → Int → gh_M → (Int → gh_M → Prop) → Prop) (hrec : ∀ (a b c d0 e0 : Int) (m : gh_M) (Q : Int → gh_M → Prop), gh_F m → REC a b c d0 e0 m Q → gh_C E gh_yForest_countOf prog_5_method_7_code 10 (some .long) 1 (d + 0) [(2, 41), (0, a), (0, b), (0, c), (0, d0), (0, e0)] m (fun r m1 => gh_F m1 ∧ Q r m1)) (v1 : Int) (v2 : Int) (v3 : Int) (v4 : Int) (v5 : Int) (hF : gh_F m) (h : w_Forest_countOf REC v1 v2 v3 v4 v5 m Q) : gh_C E gh_yForest_countOf prog_5_method_7_code 10 (some .long) 1 (d + 3) [(2, 41), (0, v1), (0, v2), (0, v3), (0, v4), (0, v5)] m (fun r m1 => gh_F m1 ∧ Q r m1) := by
  refine gh_enter2 (L := [(0, 2, 41), (1, 0, v1), (2, 0, v2), (3, 0, v3), (4, 0, v4), (5, 0, v5)]) (by decide +kernel) gh_rt1 (Nat.le_of_ble_eq_true rfl) rfl rfl ?_
  unfold w_Forest_countOf at h
  refine gh_iload gd_Forest_countOf_0 4 rfl ?_
  refine gh_iload_n gd_Forest_countOf_2 1 rfl ?_
  refine gh_ishr gd_Forest_countOf_3 ?_
  refine gh_iconst gd_Forest_countOf_4 (gh_r0 rfl) ?_
  refine gh_iand gd_Forest_countOf_5 ?_
  obtain ⟨hk, hA, hB⟩ := h
  have k1446 : (((gh_iand_f (gh_ishr_f v4 v1) 1) = 0) ∧ ((v5 < 8) ∧ (p_Chart_covers v1 v2 v3 m))) → gh_T E (gh_yForest_countOf.cls, prog_5_method_7_code, 10, false, 1) (d + 3) 31 [(0, 2, 41), (1, 0, v1), (2, 0, v2), (3, 0, v3), (4, 0, v4), (5, 0, v5)] [] m (fun r m1 => gh_F m1 ∧ Q r m1) := by
    intro c
    have h := hA c
    refine gh_iload gd_Forest_countOf_31 4 rfl ?_
    refine gh_aload_n gd_Forest_countOf_33 0 rfl (by decide) ?_
    refine gf_41_1 gd_Forest_countOf_34 gh_k404 hF ?_
    refine gf_20_9 gd_Forest_countOf_37 gh_k258 hF ?_
    refine gh_iload_n gd_Forest_countOf_40 1 rfl ?_
    obtain ⟨q1448, h⟩ := h
    obtain ⟨q1449, h⟩ := h
    refine la_24 gd_Forest_countOf_41 hF q1448 q1449 rfl ?_
    refine gh_iand gd_Forest_countOf_42 ?_
    refine gh_name (fun v6 hn => ?_)
    have h := h v6 hn
    refine gh_istore (L2 := [(6, 0, v6), (0, 2, 41), (1, 0, v1), (2, 0, v2), (3, 0, v3), (4, 0, v4), (5, 0, v5)]) gd_Forest_countOf_43 (by decide) rfl ?_
    refine gh_aload_n gd_Forest_countOf_45 1 rfl (by decide) ?_
    refine gh_iload_n gd_Forest_countOf_46 2 rfl ?_
    refine gh_iload_n gd_Forest_countOf_47 3 rfl ?_
    refine gh_iload_n gd_Forest_countOf_48 4 rfl ?_
    refine gh_iload gd_Forest_countOf_49 0 rfl ?_
    refine cv_Forest_recall (d := d + 2) gd_Forest_countOf_51 gh_k1045 hF (Nat.le_of_ble_eq_true rfl) (gh_C.pw (s_Forest_recall (d + 1) v1 v2 v3 v6 hF h) (fun r1450 h => ?_))
    refine gh_lstore (L2 := [(7, 1, r1450), (6, 0, v6), (0, 2, 41), (1, 0, v1), (2, 0, v2), (3, 0, v3), (4, 0, v4), (5, 0, v5)]) gd_Forest_countOf_54 (by decide) rfl ?_
    refine gh_lload gd_Forest_countOf_56 0 rfl ?_
    refine gh_lconst (n := 0) gd_Forest_countOf_58 (by decide) (gh_r1 rfl) ?_
    refine gh_lcmp gd_Forest_countOf_59 ?_
    obtain ⟨hA, hB⟩ := h
    refine gh_clt (tgt := 66) gd_Forest_countOf_60 (by decide) (fun c1452 => ?_) (fun c1452 => ?_)
    · have h := hA c1452
      refine gh_lconst (n := 0) gd_Forest_countOf_66 (by decide) (gh_r1 rfl) ?_
      refine gh_lstore (L2 := [(7, 1, 0), (6, 0, v6), (0, 2, 41), (1, 0, v1), (2, 0, v2), (3, 0, v3), (4, 0, v4), (5, 0, v5)]) gd_Forest_countOf_67 (by decide) rfl ?_
      refine gh_aload_n gd_Forest_countOf_69 2 rfl (by decide) ?_
      refine gf_41_0 gd_Forest_countOf_70 gh_k403 hF ?_
      refine gf_13_3 gd_Forest_countOf_73 gh_k194 hF ?_
      refine gh_iload_n gd_Forest_countOf_76 3 rfl ?_
      obtain ⟨q1453, h⟩ := h
      obtain ⟨q1454, h⟩ := h
      refine la_14 gd_Forest_countOf_77 hF q1453 q1454 rfl ?_
      refine gh_name (fun v9 hn => ?_)
      have h := h v9 hn
      refine gh_istore (L2 := [(9, 0, v9), (7, 1, 0), (6, 0, v6), (0, 2, 41), (1, 0, v1), (2, 0, v2), (3, 0, v3), (4, 0, v4), (5, 0, v5)]) gd_Forest_countOf_78 (by decide) rfl ?_
      refine gh_pick (L2 := [(0, 2, 41), (1, 0, v1), (2, 0, v2), (3, 0, v3), (5, 0, v5), (6, 0, v6), (7, 1, 0), (9, 0, v9)]) [3, 4, 5, 6, 8, 2, 1, 0] rfl ?_
      exact gh_M2_sound (T := fun v7 v9 m => gh_T E (gh_yForest_countOf.cls, prog_5_method_7_code, 10, false, 1) (d + 3) 80 [(0, 2, 41), (1, 0, v1), (2, 0, v2), (3, 0, v3), (5, 0, v5), (6, 0, v6), (7, 1, v7), (9, 0, v9)] [] m (fun r m1 => gh_F m1 ∧ Q r m1)) (fun _ _ m => gh_F m) (fun K80 v7 v9 m hK hF h => b_Forest_countOf_80 d REC hrec hK v7 v9 m hF h) 0 v9 m hF h
    · have h := hB c1452
      refine gh_lload gd_Forest_countOf_63 0 rfl ?_
      exact gh_ret1 rfl gd_Forest_countOf_65 ⟨hF, h⟩
  have k1447 : ¬ (((gh_iand_f (gh_ishr_f v4 v1) 1) = 0) ∧ ((v5 < 8) ∧ (p_Chart_covers v1 v2 v3 m))) → gh_T E (gh_yForest_countOf.cls, prog_5_method_7_code, 10, false, 1) (d + 3) 29 [(0, 2, 41), (1, 0, v1), (2, 0, v2), (3, 0, v3), (4, 0, v4), (5, 0, v5)] [] m (fun r m1 => gh_F m1 ∧ Q r m1) := by
    intro c
    have h := hB c
    refine gh_lconst (n := 0) gd_Forest_countOf_29 (by decide) (gh_r1 rfl) ?_
    exact gh_ret1 rfl gd_Forest_countOf_30 ⟨hF, h⟩
  refine gh_zne (tgt := 29) gd_Forest_countOf_6 (by decide) (fun c1463 => ?_) (fun c1463 => ?_)
  · have hz : True := trivial
    have hk := hk c1463
    refine gh_iload gd_Forest_countOf_9 5 rfl ?_
    refine gh_bipush gd_Forest_countOf_11 (by decide) (gh_r0 rfl) ?_
    refine gh_jge (tgt := 29) gd_Forest_countOf_13 (by decide) (fun c1464 => ?_) (fun c1464 => ?_)
    · have hz : True := trivial
      have hk := hk c1464
      refine gh_aload_n gd_Forest_countOf_16 0 rfl (by decide) ?_
      refine gf_41_3 gd_Forest_countOf_17 gh_k406 hF ?_
      refine gh_iload_n gd_Forest_countOf_20 1 rfl ?_
      refine gh_iload_n gd_Forest_countOf_21 2 rfl ?_
      refine gh_iload_n gd_Forest_countOf_22 3 rfl ?_
      have q1445 := hk
      refine cv_Chart_covers (d := d + 2) gd_Forest_countOf_23 gh_k1044 hF (Nat.le_of_ble_eq_true rfl) (gh_C.pe (e_Chart_covers (d + 2) v1 v2 v3 hF q1445) ?_)
      refine gh_bne (tgt := 31) gd_Forest_countOf_26 (by decide) (fun c1465 => ?_) (fun c1465 => ?_)
      · have hz : True := trivial
        exact k1446 ⟨c1463, ⟨c1464, c1465⟩⟩
      · have hz : True := trivial
        exact k1447 (fun z => (fun z => c1465 z.2) z.2)
    · have hz : True := trivial
      exact k1447 (fun z => (fun z => c1464 z.1) z.2)
  · have hz : True := trivial
    exact k1447 (fun z => c1463 z.1)
/-- counting trees, so many names above one another at most -/
def gh_rec : Nat → (Int → Int → Int → Int → Int → gh_M → (Int → gh_M → Prop) → Prop)
  | 0 => fun _ _ _ _ _ _ _ => False
  | n + 1 => fun a b c d e m Q => w_Forest_countOf (gh_rec n) a b c d e m Q
def wr_Forest_countOf (a b c d e : Int) (m : gh_M) (Q : Int → gh_M → Prop) : Prop := gh_rec 10 a b c d e m Q
def wr_Forest_countByRule (a b c d e : Int) (m : gh_M) (Q : Int → gh_M → Prop) : Prop := w_Forest_countByRule (gh_rec 10) a b c d e m Q
def wr_Forest_countOfPart (a b c d e f g : Int) (m : gh_M) (Q : Int → gh_M → Prop) : Prop := w_Forest_countOfPart (gh_rec 10) a b c d e f g m Q
theorem gh_rec_s {E : gh_E} (d : Nat) : ∀ (n : Nat) (a b c d0 e0 : Int) (m : gh_M) (Q : Int → gh_M → Prop), gh_F m → gh_rec n a b c d0 e0 m Q → gh_C E gh_yForest_countOf prog_5_method_7_code 10 (some .long) 1 (d + 3 * n) [(2, 41), (0, a), (0, b), (0, c), (0, d0), (0, e0)] m (fun r m1 => gh_F m1 ∧ Q r m1) := by
  intro n
  induction n with
  | zero => intro a b c d0 e0 m Q hF h; exact absurd h (fun z => z)
  | succ n ih =>
    intro a b c d0 e0 m Q hF h
    exact s_Forest_countOf (d + 3 * n) (gh_rec n) ih a b c d0 e0 hF h
theorem sr_Forest_countOf {E : gh_E} {m : gh_M} {Q : Int → gh_M → Prop} (d : Nat) (v1 : Int) (v2 : Int) (v3 : Int) (v4 : Int) (v5 : Int) (hF : gh_F m) (h : wr_Forest_countOf v1 v2 v3 v4 v5 m Q) : gh_C E gh_yForest_countOf prog_5_method_7_code 10 (some .long) 1 (d + 30) [(2, 41), (0, v1), (0, v2), (0, v3), (0, v4), (0, v5)] m (fun r m1 => gh_F m1 ∧ Q r m1) := gh_rec_s d 10 v1 v2 v3 v4 v5 m Q hF h
theorem sr_Forest_countByRule {E : gh_E} {m : gh_M} {Q : Int → gh_M → Prop} (d : Nat) (v1 : Int) (v2 : Int) (v3 : Int) (v4 : Int) (v5 : Int) (hF : gh_F m) (h : wr_Forest_countByRule v1 v2 v3 v4 v5 m Q) : gh_C E gh_yForest_countByRule prog_5_method_11_code 19 (some .long) 1 (d + 32) [(2, 41), (0, v1), (0, v2), (0, v3), (0, v4), (0, v5)] m (fun r m1 => gh_F m1 ∧ Q r m1) := s_Forest_countByRule (d + 30) (gh_rec 10) (gh_rec_s d 10) v1 v2 v3 v4 v5 hF h
theorem sr_Forest_countOfPart {E : gh_E} {m : gh_M} {Q : Int → gh_M → Prop} (d : Nat) (v1 : Int) (v2 : Int) (v3 : Int) (v4 : Int) (v5 : Int) (v6 : Int) (v7 : Int) (hF : gh_F m) (h : wr_Forest_countOfPart v1 v2 v3 v4 v5 v6 v7 m Q) : gh_C E gh_yForest_countOfPart prog_5_method_13_code 9 (some .long) 1 (d + 31) [(2, 41), (0, v1), (0, v2), (0, v3), (0, v4), (0, v5), (0, v6), (0, v7)] m (fun r m1 => gh_F m1 ∧ Q r m1) := s_Forest_countOfPart (d + 30) (gh_rec 10) (gh_rec_s d 10) v1 v2 v3 v4 v5 v6 v7 hF h
def f_Forest_countOver_80 (v1 : Int) (v2 : Int) (Q : Int → gh_M → Prop) (K80 : Int → gh_M → Prop) (v3 : Int) (m : gh_M) : Prop := ((v3 < (m 13 1) → (gh_i (v3 * 9) ∧ gh_i ((v3 * 9) + v1) ∧ gh_i (((v3 * 9) + v1) * 9) ∧ gh_i ((((v3 * 9) + v1) * 9) + v2)) ∧ wr_Forest_countOf v3 v1 v2 0 0 m (fun r1481 m1482 => 0 ≤ ((((v3 * 9) + v1) * 9) + v2) ∧ (((((v3 * 9) + v1) * 9) + v2)) < 648 ∧ gh_i (v3 + 1) ∧ K80 (v3 + 1) (gh_u m1482 42 (((((v3 * 9) + v1) * 9) + v2)) r1481))) ∧ (¬ (v3 < (m 13 1)) → Q 0 m))
def f_Forest_countOver_24 (v1 : Int) (v2 : Int) (Q : Int → gh_M → Prop) (K24 : Int → gh_M → Prop) (v3 : Int) (m : gh_M) : Prop := ((v3 < (m 13 1) → (gh_i (v3 * 9) ∧ gh_i ((v3 * 9) + v1) ∧ gh_i (((v3 * 9) + v1) * 9) ∧ gh_i ((((v3 * 9) + v1) * 9) + v2)) ∧ (((v1 = v2) → ((¬ (v2 ≤ 0) → ((gh_i (v3 * 9) ∧ gh_i ((v3 * 9) + 0) ∧ gh_i (((v3 * 9) + 0) * 9) ∧ gh_i ((((v3 * 9) + 0) * 9) + 0)) ∧ 0 ≤ ((((v3 * 9) + 0) * 9) + 0) ∧ (((((v3 * 9) + 0) * 9) + 0)) < 648))))) ∧ 0 ≤ ((((v3 * 9) + v1) * 9) + v2) ∧ (((((v3 * 9) + v1) * 9) + v2)) < 648 ∧ gh_i (v3 + 1) ∧ K24 (v3 + 1) (gh_u m 42 (((((v3 * 9) + v1) * 9) + v2)) (if v1 = v2 then (if v2 ≤ 0 then (-1) else (m 42 (((((v3 * 9) + 0) * 9) + 0)))) else (-1)))) ∧ (¬ (v3 < (m 13 1)) → gh_M1 (fun K80 v3 m => f_Forest_countOver_80 v1 v2 Q K80 v3 m) 0 m))
def w_Forest_countOver (v1 : Int) (v2 : Int) (m : gh_M) (Q : Int → gh_M → Prop) : Prop := gh_i ((m 41 9) + 1) ∧ ∃ J22 : gh_M → Prop, (∀ (m : gh_M), J22 m → gh_M1 (fun K24 v3 m => f_Forest_countOver_24 v1 v2 Q K24 v3 m) 0 m) ∧ ((v2 = 0 → J22 (gh_u (gh_u m 41 9 ((m 41 9) + 1)) 41 10 (((m 41 9) + 1)))) ∧ (¬ (v2 = 0) → J22 (gh_u m 41 9 ((m 41 9) + 1))))
theorem b_Forest_countOver_80 {E : gh_E} {v1 : Int} {v2 : Int} {Q : Int → gh_M → Prop} {K80 : Int → gh_M → Prop} (d : Nat) (hK : ∀ (v3 : Int) (m : gh_M), gh_F m → K80 v3 m → gh_T E (gh_yForest_countOver.cls, prog_5_method_4_code, 4, false, 9) (d + 31) 80 [(0, 2, 41), (1, 0, v1), (2, 0, v2), (3, 0, v3)] [] m (fun r m1 => gh_F m1 ∧ Q r m1)) (v3 : Int) (m : gh_M) (hF : gh_F m) (h : f_Forest_countOver_80 v1 v2 Q K80 v3 m) : gh_T E (gh_yForest_countOver.cls, prog_5_method_4_code, 4, false, 9) (d + 31) 80 [(0, 2, 41), (1, 0, v1), (2, 0, v2), (3, 0, v3)] [] m (fun r m1 => gh_F m1 ∧ Q r m1) := by
  have hK80 := hK
  unfold f_Forest_countOver_80 at h
  refine gh_iload_n gd_Forest_countOver_80 3 rfl ?_
  refine gh_aload_n gd_Forest_countOver_81 0 rfl (by decide) ?_
  refine gf_41_0 gd_Forest_countOver_82 gh_k403 hF ?_
  refine gf_13_1 gd_Forest_countOver_85 gh_k184 hF rfl ?_
  obtain ⟨hA, hB⟩ := h
  refine gh_jge (tgt := 117) gd_Forest_countOver_88 (by decide) (fun c1479 => ?_) (fun c1479 => ?_)
  · have h := hA c1479
    refine gh_aload_n gd_Forest_countOver_91 0 rfl (by decide) ?_
    refine gf_41_4 gd_Forest_countOver_92 gh_k407 hF ?_
    refine gh_iload_n gd_Forest_countOver_95 3 rfl ?_
    refine gh_iload_n gd_Forest_countOver_96 1 rfl ?_
    refine gh_iload_n gd_Forest_countOver_97 2 rfl ?_
    obtain ⟨q1480, h⟩ := h
    refine cv_Forest_plainAt (d := d + 30) gd_Forest_countOver_98 gh_k1036 (Nat.le_of_ble_eq_true rfl) (gh_C.pe (e_Forest_plainAt (d + 30) v3 v1 v2 q1480) ?_)
    refine gh_aload_n gd_Forest_countOver_101 0 rfl (by decide) ?_
    refine gh_iload_n gd_Forest_countOver_102 3 rfl ?_
    refine gh_iload_n gd_Forest_countOver_103 1 rfl ?_
    refine gh_iload_n gd_Forest_countOver_104 2 rfl ?_
    refine gh_iconst gd_Forest_countOver_105 (gh_r0 rfl) ?_
    refine gh_iconst gd_Forest_countOver_106 (gh_r0 rfl) ?_
    refine cv_Forest_countOf (d := d + 30) gd_Forest_countOver_107 gh_k1040 hF (Nat.le_of_ble_eq_true rfl) (gh_C.mono (sr_Forest_countOf d v3 v1 v2 0 0 hF h) (fun r1481 m1482 hq => ?_))
    obtain ⟨hF, h⟩ := hq
    obtain ⟨q1483, h⟩ := h
    obtain ⟨q1484, h⟩ := h
    refine sa_42 gd_Forest_countOver_110 hF q1483 q1484 (fun hF => ?_)
    obtain ⟨q1485, h⟩ := h
    refine gh_iinc (L2 := [(3, 0, v3 + 1), (0, 2, 41), (1, 0, v1), (2, 0, v2)]) gd_Forest_countOver_111 3 rfl q1485 (by decide) rfl ?_
    refine gh_goto (tgt := 80) gd_Forest_countOver_114 (by decide) ?_
    refine gh_pick (L2 := [(0, 2, 41), (1, 0, v1), (2, 0, v2), (3, 0, v3 + 1)]) [1, 2, 3, 0] rfl ?_
    exact hK80 (v3 + 1) (gh_u m1482 42 (((((v3 * 9) + v1) * 9) + v2)) r1481) hF h
  · have h := hB c1479
    exact gh_ret9 rfl gd_Forest_countOver_117 ⟨hF, h⟩
theorem b_Forest_countOver_24 {E : gh_E} {v1 : Int} {v2 : Int} {Q : Int → gh_M → Prop} {K24 : Int → gh_M → Prop} (d : Nat) (hK : ∀ (v3 : Int) (m : gh_M), gh_F m → K24 v3 m → gh_T E (gh_yForest_countOver.cls, prog_5_method_4_code, 4, false, 9) (d + 31) 24 [(0, 2, 41), (1, 0, v1), (2, 0, v2), (3, 0, v3)] [] m (fun r m1 => gh_F m1 ∧ Q r m1)) (v3 : Int) (m : gh_M) (hF : gh_F m) (h : f_Forest_countOver_24 v1 v2 Q K24 v3 m) : gh_T E (gh_yForest_countOver.cls, prog_5_method_4_code, 4, false, 9) (d + 31) 24 [(0, 2, 41), (1, 0, v1), (2, 0, v2), (3, 0, v3)] [] m (fun r m1 => gh_F m1 ∧ Q r m1) := by
  have hK24 := hK
  unfold f_Forest_countOver_24 at h
  refine gh_iload_n gd_Forest_countOver_24 3 rfl ?_
  refine gh_aload_n gd_Forest_countOver_25 0 rfl (by decide) ?_
  refine gf_41_0 gd_Forest_countOver_26 gh_k403 hF ?_
  refine gf_13_1 gd_Forest_countOver_29 gh_k184 hF rfl ?_
  obtain ⟨hA, hB⟩ := h
  refine gh_jge (tgt := 78) gd_Forest_countOver_32 (by decide) (fun c1467 => ?_) (fun c1467 => ?_)
  · have h := hA c1467
    refine gh_aload_n gd_Forest_countOver_35 0 rfl (by decide) ?_
    refine gf_41_4 gd_Forest_countOver_36 gh_k407 hF ?_
    refine gh_iload_n gd_Forest_countOver_39 3 rfl ?_
    refine gh_iload_n gd_Forest_countOver_40 1 rfl ?_
    refine gh_iload_n gd_Forest_countOver_41 2 rfl ?_
    obtain ⟨q1468, h⟩ := h
    refine cv_Forest_plainAt (d := d + 30) gd_Forest_countOver_42 gh_k1036 (Nat.le_of_ble_eq_true rfl) (gh_C.pe (e_Forest_plainAt (d + 30) v3 v1 v2 q1468) ?_)
    refine gh_iload_n gd_Forest_countOver_45 1 rfl ?_
    refine gh_iload_n gd_Forest_countOver_46 2 rfl ?_
    obtain ⟨hk, h⟩ := h
    have k1472 : ∀ x1473 : Int, x1473 = (if v1 = v2 then (if v2 ≤ 0 then (-1) else (m 42 (((((v3 * 9) + 0) * 9) + 0)))) else (-1)) → gh_T E (gh_yForest_countOver.cls, prog_5_method_4_code, 4, false, 9) (d + 31) 71 [(0, 2, 41), (1, 0, v1), (2, 0, v2), (3, 0, v3)] [(1, x1473), (0, ((((v3 * 9) + v1) * 9) + v2)), (2, 42)] m (fun r m1 => gh_F m1 ∧ Q r m1) := by
      rintro _ rfl
      obtain ⟨q1474, h⟩ := h
      obtain ⟨q1475, h⟩ := h
      refine sa_42 gd_Forest_countOver_71 hF q1474 q1475 (fun hF => ?_)
      obtain ⟨q1476, h⟩ := h
      refine gh_iinc (L2 := [(3, 0, v3 + 1), (0, 2, 41), (1, 0, v1), (2, 0, v2)]) gd_Forest_countOver_72 3 rfl q1476 (by decide) rfl ?_
      refine gh_goto (tgt := 24) gd_Forest_countOver_75 (by decide) ?_
      refine gh_pick (L2 := [(0, 2, 41), (1, 0, v1), (2, 0, v2), (3, 0, v3 + 1)]) [1, 2, 3, 0] rfl ?_
      exact hK24 (v3 + 1) (gh_u m 42 (((((v3 * 9) + v1) * 9) + v2)) (if v1 = v2 then (if v2 ≤ 0 then (-1) else (m 42 (((((v3 * 9) + 0) * 9) + 0)))) else (-1))) hF h
    refine gh_jne (tgt := 68) gd_Forest_countOver_47 (by decide) (fun c1477 => ?_) (fun c1477 => ?_)
    · have hz : True := trivial
      have hk := hk c1477
      refine gh_iload_n gd_Forest_countOver_50 2 rfl ?_
      refine gh_zle (tgt := 68) gd_Forest_countOver_51 (by decide) (fun c1478 => ?_) (fun c1478 => ?_)
      · have hz : True := trivial
        refine gh_ldc2 (n := (-1)) gd_Forest_countOver_68 gh_k1039 (by decide) (gh_r1 rfl) ?_
        exact k1472 _ (by rw [if_pos c1477, if_pos c1478])
      · have hz : True := trivial
        have hk := hk c1478
        refine gh_aload_n gd_Forest_countOver_54 0 rfl (by decide) ?_
        refine gf_41_4 gd_Forest_countOver_55 gh_k407 hF ?_
        refine gh_iload_n gd_Forest_countOver_58 3 rfl ?_
        refine gh_iconst gd_Forest_countOver_59 (gh_r0 rfl) ?_
        refine gh_iconst gd_Forest_countOver_60 (gh_r0 rfl) ?_
        obtain ⟨q1469, hk⟩ := hk
        refine cv_Forest_plainAt (d := d + 30) gd_Forest_countOver_61 gh_k1036 (Nat.le_of_ble_eq_true rfl) (gh_C.pe (e_Forest_plainAt (d + 30) v3 0 0 q1469) ?_)
        obtain ⟨q1470, hk⟩ := hk
        have q1471 := hk
        refine la_42 gd_Forest_countOver_64 hF q1470 q1471 rfl ?_
        refine gh_goto (tgt := 71) gd_Forest_countOver_65 (by decide) ?_
        exact k1472 _ (by rw [if_pos c1477, if_neg c1478])
    · have hz : True := trivial
      refine gh_ldc2 (n := (-1)) gd_Forest_countOver_68 gh_k1039 (by decide) (gh_r1 rfl) ?_
      exact k1472 _ (by rw [if_neg c1477])
  · have h := hB c1467
    refine gh_iconst gd_Forest_countOver_78 (gh_r0 rfl) ?_
    refine gh_istore_n (L2 := [(3, 0, 0), (0, 2, 41), (1, 0, v1), (2, 0, v2)]) gd_Forest_countOver_79 (by decide) rfl ?_
    refine gh_pick (L2 := [(0, 2, 41), (1, 0, v1), (2, 0, v2), (3, 0, 0)]) [1, 2, 3, 0] rfl ?_
    exact gh_M1_sound (T := fun v3 m => gh_T E (gh_yForest_countOver.cls, prog_5_method_4_code, 4, false, 9) (d + 31) 80 [(0, 2, 41), (1, 0, v1), (2, 0, v2), (3, 0, v3)] [] m (fun r m1 => gh_F m1 ∧ Q r m1)) (fun _ m => gh_F m) (fun K80 v3 m hK hF h => b_Forest_countOver_80 d hK v3 m hF h) 0 m hF h
theorem s_Forest_countOver {E : gh_E} {m : gh_M} {Q : Int → gh_M → Prop} (d : Nat) (v1 : Int) (v2 : Int) (hF : gh_F m) (h : w_Forest_countOver v1 v2 m Q) : gh_C E gh_yForest_countOver prog_5_method_4_code 4 none 9 (d + 31) [(2, 41), (0, v1), (0, v2)] m (fun r m1 => gh_F m1 ∧ Q r m1) := by
  refine gh_enter2 (L := [(0, 2, 41), (1, 0, v1), (2, 0, v2)]) (by decide +kernel) gh_rt9 (Nat.le_of_ble_eq_true rfl) rfl rfl ?_
  unfold w_Forest_countOver at h
  refine gh_aload_n gd_Forest_countOver_0 0 rfl (by decide) ?_
  refine gh_dup gd_Forest_countOver_1 (by decide) ?_
  refine gf_41_9 gd_Forest_countOver_2 gh_k412 hF rfl ?_
  refine gh_iconst gd_Forest_countOver_5 (gh_r0 rfl) ?_
  obtain ⟨q1466, h⟩ := h
  refine gh_iadd gd_Forest_countOver_6 q1466 ?_
  refine pf_41_9 gd_Forest_countOver_7 gh_k412 hF (fun hF => ?_)
  refine gh_iload_n gd_Forest_countOver_10 2 rfl ?_
  obtain ⟨J22, hJ22, h⟩ := h
  have hJ22 : ∀ (m : gh_M), gh_F m → J22 m → gh_T E (gh_yForest_countOver.cls, prog_5_method_4_code, 4, false, 9) (d + 31) 22 [(0, 2, 41), (1, 0, v1), (2, 0, v2)] [] m (fun r m1 => gh_F m1 ∧ Q r m1) := by
    intro m hF hj
    have h := hJ22 m hj
    refine gh_iconst gd_Forest_countOver_22 (gh_r0 rfl) ?_
    refine gh_istore_n (L2 := [(3, 0, 0), (0, 2, 41), (1, 0, v1), (2, 0, v2)]) gd_Forest_countOver_23 (by decide) rfl ?_
    refine gh_pick (L2 := [(0, 2, 41), (1, 0, v1), (2, 0, v2), (3, 0, 0)]) [1, 2, 3, 0] rfl ?_
    exact gh_M1_sound (T := fun v3 m => gh_T E (gh_yForest_countOver.cls, prog_5_method_4_code, 4, false, 9) (d + 31) 24 [(0, 2, 41), (1, 0, v1), (2, 0, v2), (3, 0, v3)] [] m (fun r m1 => gh_F m1 ∧ Q r m1)) (fun _ m => gh_F m) (fun K24 v3 m hK hF h => b_Forest_countOver_24 d hK v3 m hF h) 0 m hF h
  obtain ⟨hA, hB⟩ := h
  refine gh_zne (tgt := 22) gd_Forest_countOver_11 (by decide) (fun c1486 => ?_) (fun c1486 => ?_)
  · have h := hA c1486
    refine gh_aload_n gd_Forest_countOver_14 0 rfl (by decide) ?_
    refine gh_aload_n gd_Forest_countOver_15 0 rfl (by decide) ?_
    refine gf_41_9 gd_Forest_countOver_16 gh_k412 hF (gh_u_s _ _ _ _) ?_
    refine pf_41_10 gd_Forest_countOver_19 gh_k413 hF (fun hF => ?_)
    exact hJ22 (gh_u (gh_u m 41 9 ((m 41 9) + 1)) 41 10 (((m 41 9) + 1))) hF h
  · have h := hB c1486
    exact hJ22 (gh_u m 41 9 ((m 41 9) + 1)) hF h
def f_Forest_treesOf_18 (v1 : Int) (v2 : Int) (v3 : Int) (v4 : Int) (K8 : Int → gh_M → Prop) (K18 : Int → gh_M → Prop) (v5 : Int) (m : gh_M) : Prop := ((v5 < 0 → gh_i (v4 + 1) ∧ K8 (v4 + 1) (gh_u m 41 11 v4)) ∧ (¬ (v5 < 0) → w_Forest_countOver v5 v4 m (fun _ m1492 => gh_i (v5 + (-1)) ∧ K18 (v5 + (-1)) m1492)))
def f_Forest_treesOf_8 (v1 : Int) (v2 : Int) (v3 : Int) (Q : Int → gh_M → Prop) (K8 : Int → gh_M → Prop) (v4 : Int) (m : gh_M) : Prop := ((v4 ≤ v3 → gh_M1 (fun K18 v5 m => f_Forest_treesOf_18 v1 v2 v3 v4 K8 K18 v5 m) v4 m) ∧ (¬ (v4 ≤ v3) → (gh_i (v1 * 9) ∧ gh_i ((v1 * 9) + v2) ∧ gh_i (((v1 * 9) + v2) * 9) ∧ gh_i ((((v1 * 9) + v2) * 9) + v3)) ∧ 0 ≤ ((((v1 * 9) + v2) * 9) + v3) ∧ (((((v1 * 9) + v2) * 9) + v3)) < 648 ∧ Q (m 42 (((((v1 * 9) + v2) * 9) + v3))) m))
def w_Forest_treesOf (v1 : Int) (v2 : Int) (v3 : Int) (m : gh_M) (Q : Int → gh_M → Prop) : Prop := gh_i ((m 41 11) + 1) ∧ ∀ v4 : Int, v4 = (m 41 11) + 1 → gh_M1 (fun K8 v4 m => f_Forest_treesOf_8 v1 v2 v3 Q K8 v4 m) v4 m
theorem b_Forest_treesOf_18 {E : gh_E} {v1 : Int} {v2 : Int} {v3 : Int} {v4 : Int} {K8 : Int → gh_M → Prop} {Q : Int → gh_M → Prop} {K18 : Int → gh_M → Prop} (d : Nat) (hK8 : ∀ (v4 : Int) (m : gh_M), gh_F m → K8 v4 m → gh_T E (gh_yForest_treesOf.cls, prog_5_method_3_code, 6, false, 1) (d + 32) 8 [(0, 2, 41), (1, 0, v1), (2, 0, v2), (3, 0, v3), (4, 0, v4)] [] m (fun r m1 => gh_F m1 ∧ Q r m1)) (hK : ∀ (v5 : Int) (m : gh_M), gh_F m → K18 v5 m → gh_T E (gh_yForest_treesOf.cls, prog_5_method_3_code, 6, false, 1) (d + 32) 18 [(0, 2, 41), (1, 0, v1), (2, 0, v2), (3, 0, v3), (4, 0, v4), (5, 0, v5)] [] m (fun r m1 => gh_F m1 ∧ Q r m1)) (v5 : Int) (m : gh_M) (hF : gh_F m) (h : f_Forest_treesOf_18 v1 v2 v3 v4 K8 K18 v5 m) : gh_T E (gh_yForest_treesOf.cls, prog_5_method_3_code, 6, false, 1) (d + 32) 18 [(0, 2, 41), (1, 0, v1), (2, 0, v2), (3, 0, v3), (4, 0, v4), (5, 0, v5)] [] m (fun r m1 => gh_F m1 ∧ Q r m1) := by
  have hK18 := hK
  unfold f_Forest_treesOf_18 at h
  refine gh_iload gd_Forest_treesOf_18 5 rfl ?_
  obtain ⟨hA, hB⟩ := h
  refine gh_zlt (tgt := 37) gd_Forest_treesOf_20 (by decide) (fun c1489 => ?_) (fun c1489 => ?_)
  · have h := hA c1489
    refine gh_aload_n gd_Forest_treesOf_37 0 rfl (by decide) ?_
    refine gh_iload gd_Forest_treesOf_38 4 rfl ?_
    refine pf_41_11 gd_Forest_treesOf_40 gh_k414 hF (fun hF => ?_)
    obtain ⟨q1490, h⟩ := h
    refine gh_iinc (L2 := [(4, 0, v4 + 1), (0, 2, 41), (1, 0, v1), (2, 0, v2), (3, 0, v3), (5, 0, v5)]) gd_Forest_treesOf_43 4 rfl q1490 (by decide) rfl ?_
    refine gh_goto (tgt := 8) gd_Forest_treesOf_46 (by decide) ?_
    refine gh_pick (L2 := [(0, 2, 41), (1, 0, v1), (2, 0, v2), (3, 0, v3), (4, 0, v4 + 1)]) [1, 2, 3, 4, 0] rfl ?_
    exact hK8 (v4 + 1) (gh_u m 41 11 v4) hF h
  · have h := hB c1489
    refine gh_aload_n gd_Forest_treesOf_23 0 rfl (by decide) ?_
    refine gh_iload gd_Forest_treesOf_24 5 rfl ?_
    refine gh_iload gd_Forest_treesOf_26 4 rfl ?_
    refine cv_Forest_countOver (d := d + 31) gd_Forest_treesOf_28 gh_k1032 hF (Nat.le_of_ble_eq_true rfl) (gh_C.mono (s_Forest_countOver d v5 v4 hF h) (fun r1491 m1492 hq => ?_))
    obtain ⟨hF, h⟩ := hq
    obtain ⟨q1493, h⟩ := h
    refine gh_iinc (L2 := [(5, 0, v5 + (-1)), (0, 2, 41), (1, 0, v1), (2, 0, v2), (3, 0, v3), (4, 0, v4)]) gd_Forest_treesOf_31 5 rfl q1493 (by decide) rfl ?_
    refine gh_goto (tgt := 18) gd_Forest_treesOf_34 (by decide) ?_
    refine gh_pick (L2 := [(0, 2, 41), (1, 0, v1), (2, 0, v2), (3, 0, v3), (4, 0, v4), (5, 0, v5 + (-1))]) [1, 2, 3, 4, 5, 0] rfl ?_
    exact hK18 (v5 + (-1)) m1492 hF h
theorem b_Forest_treesOf_8 {E : gh_E} {v1 : Int} {v2 : Int} {v3 : Int} {Q : Int → gh_M → Prop} {K8 : Int → gh_M → Prop} (d : Nat) (hK : ∀ (v4 : Int) (m : gh_M), gh_F m → K8 v4 m → gh_T E (gh_yForest_treesOf.cls, prog_5_method_3_code, 6, false, 1) (d + 32) 8 [(0, 2, 41), (1, 0, v1), (2, 0, v2), (3, 0, v3), (4, 0, v4)] [] m (fun r m1 => gh_F m1 ∧ Q r m1)) (v4 : Int) (m : gh_M) (hF : gh_F m) (h : f_Forest_treesOf_8 v1 v2 v3 Q K8 v4 m) : gh_T E (gh_yForest_treesOf.cls, prog_5_method_3_code, 6, false, 1) (d + 32) 8 [(0, 2, 41), (1, 0, v1), (2, 0, v2), (3, 0, v3), (4, 0, v4)] [] m (fun r m1 => gh_F m1 ∧ Q r m1) := by
  have hK8 := hK
  unfold f_Forest_treesOf_8 at h
  refine gh_iload gd_Forest_treesOf_8 4 rfl ?_
  refine gh_iload_n gd_Forest_treesOf_10 3 rfl ?_
  obtain ⟨hA, hB⟩ := h
  refine gh_jgt (tgt := 49) gd_Forest_treesOf_11 (by decide) (fun c1488 => ?_) (fun c1488 => ?_)
  · have h := hA c1488
    refine gh_iload gd_Forest_treesOf_14 4 rfl ?_
    refine gh_istore (L2 := [(5, 0, v4), (0, 2, 41), (1, 0, v1), (2, 0, v2), (3, 0, v3), (4, 0, v4)]) gd_Forest_treesOf_16 (by decide) rfl ?_
    refine gh_pick (L2 := [(0, 2, 41), (1, 0, v1), (2, 0, v2), (3, 0, v3), (4, 0, v4), (5, 0, v4)]) [1, 2, 3, 4, 5, 0] rfl ?_
    exact gh_M1_sound (T := fun v5 m => gh_T E (gh_yForest_treesOf.cls, prog_5_method_3_code, 6, false, 1) (d + 32) 18 [(0, 2, 41), (1, 0, v1), (2, 0, v2), (3, 0, v3), (4, 0, v4), (5, 0, v5)] [] m (fun r m1 => gh_F m1 ∧ Q r m1)) (fun _ m => gh_F m) (fun K18 v5 m hK hF h => b_Forest_treesOf_18 d hK8 hK v5 m hF h) v4 m hF h
  · have h := hB c1488
    refine gh_aload_n gd_Forest_treesOf_49 0 rfl (by decide) ?_
    refine gf_41_4 gd_Forest_treesOf_50 gh_k407 hF ?_
    refine gh_iload_n gd_Forest_treesOf_53 1 rfl ?_
    refine gh_iload_n gd_Forest_treesOf_54 2 rfl ?_
    refine gh_iload_n gd_Forest_treesOf_55 3 rfl ?_
    obtain ⟨q1494, h⟩ := h
    refine cv_Forest_plainAt (d := d + 31) gd_Forest_treesOf_56 gh_k1036 (Nat.le_of_ble_eq_true rfl) (gh_C.pe (e_Forest_plainAt (d + 31) v1 v2 v3 q1494) ?_)
    obtain ⟨q1495, h⟩ := h
    obtain ⟨q1496, h⟩ := h
    refine la_42 gd_Forest_treesOf_59 hF q1495 q1496 rfl ?_
    exact gh_ret1 rfl gd_Forest_treesOf_60 ⟨hF, h⟩
theorem s_Forest_treesOf {E : gh_E} {m : gh_M} {Q : Int → gh_M → Prop} (d : Nat) (v1 : Int) (v2 : Int) (v3 : Int) (hF : gh_F m) (h : w_Forest_treesOf v1 v2 v3 m Q) : gh_C E gh_yForest_treesOf prog_5_method_3_code 6 (some .long) 1 (d + 32) [(2, 41), (0, v1), (0, v2), (0, v3)] m (fun r m1 => gh_F m1 ∧ Q r m1) := by
  refine gh_enter2 (L := [(0, 2, 41), (1, 0, v1), (2, 0, v2), (3, 0, v3)]) (by decide +kernel) gh_rt1 (Nat.le_of_ble_eq_true rfl) rfl rfl ?_
  unfold w_Forest_treesOf at h
  refine gh_aload_n gd_Forest_treesOf_0 0 rfl (by decide) ?_
  refine gf_41_11 gd_Forest_treesOf_1 gh_k414 hF rfl ?_
  refine gh_iconst gd_Forest_treesOf_4 (gh_r0 rfl) ?_
  obtain ⟨q1487, h⟩ := h
  refine gh_iadd gd_Forest_treesOf_5 q1487 ?_
  refine gh_name (fun v4 hn => ?_)
  have h := h v4 hn
  refine gh_istore (L2 := [(4, 0, v4), (0, 2, 41), (1, 0, v1), (2, 0, v2), (3, 0, v3)]) gd_Forest_treesOf_6 (by decide) rfl ?_
  refine gh_pick (L2 := [(0, 2, 41), (1, 0, v1), (2, 0, v2), (3, 0, v3), (4, 0, v4)]) [1, 2, 3, 4, 0] rfl ?_
  exact gh_M1_sound (T := fun v4 m => gh_T E (gh_yForest_treesOf.cls, prog_5_method_3_code, 6, false, 1) (d + 32) 8 [(0, 2, 41), (1, 0, v1), (2, 0, v2), (3, 0, v3), (4, 0, v4)] [] m (fun r m1 => gh_F m1 ∧ Q r m1)) (fun _ m => gh_F m) (fun K8 v4 m hK hF h => b_Forest_treesOf_8 d hK v4 m hF h) v4 m hF h
def w_House_trees (v1 : Int) (v2 : Int) (v3 : Int) (m : gh_M) (Q : Int → gh_M → Prop) : Prop := ∃ J35 : Prop, (J35 → ((v2 ≤ v3 → (((m 2 10) = 0 → Q (-1003) m) ∧ (¬ ((m 2 10) = 0) → w_Chart_refresh m (fun _ m1500 => w_Forest_treesOf v1 v2 v3 m1500 (fun r1501 m1502 => Q (if r1501 < 1000000000000000000 then r1501 else (-2)) m1502))))) ∧ (¬ (v2 ≤ v3) → Q (-1002) m))) ∧ (((((m 2 10) = 0) ∨ ((p_House_isName v1 m) ∧ ((p_House_isPlace v2 m) ∧ (p_House_isPlace v3 m)))) → J35) ∧ (¬ (((m 2 10) = 0) ∨ ((p_House_isName v1 m) ∧ ((p_House_isPlace v2 m) ∧ (p_House_isPlace v3 m)))) → Q (-1001) m))
theorem s_House_trees {E : gh_E} {m : gh_M} {Q : Int → gh_M → Prop} (d : Nat) (v1 : Int) (v2 : Int) (v3 : Int) (hF : gh_F m) (h : w_House_trees v1 v2 v3 m Q) : gh_C E gh_yHouse_trees prog_1_method_26_code 6 (some .long) 1 (d + 33) [(2, 2), (0, v1), (0, v2), (0, v3)] m (fun r m1 => gh_F m1 ∧ Q r m1) := by
  refine gh_enter2 (L := [(0, 2, 2), (1, 0, v1), (2, 0, v2), (3, 0, v3)]) (by decide +kernel) gh_rt1 (Nat.le_of_ble_eq_true rfl) rfl rfl ?_
  unfold w_House_trees at h
  refine gh_aload_n gd_House_trees_0 0 rfl (by decide) ?_
  refine gf_2_10 gd_House_trees_1 gh_k550 hF rfl ?_
  obtain ⟨J35, hJ35, h⟩ := h
  have hJ35 : gh_F m → J35 → gh_T E (gh_yHouse_trees.cls, prog_1_method_26_code, 6, false, 1) (d + 33) 35 [(0, 2, 2), (1, 0, v1), (2, 0, v2), (3, 0, v3)] [] m (fun r m1 => gh_F m1 ∧ Q r m1) := by
    intro hF hj
    have h := hJ35 hj
    refine gh_iload_n gd_House_trees_35 2 rfl ?_
    refine gh_iload_n gd_House_trees_36 3 rfl ?_
    obtain ⟨hA, hB⟩ := h
    refine gh_jle (tgt := 44) gd_House_trees_37 (by decide) (fun c1497 => ?_) (fun c1497 => ?_)
    · have h := hA c1497
      refine gh_aload_n gd_House_trees_44 0 rfl (by decide) ?_
      refine gf_2_10 gd_House_trees_45 gh_k550 hF rfl ?_
      obtain ⟨hA, hB⟩ := h
      refine gh_zne (tgt := 55) gd_House_trees_48 (by decide) (fun c1498 => ?_) (fun c1498 => ?_)
      · have h := hA c1498
        refine gh_ldc2 (n := (-1003)) gd_House_trees_51 gh_k1027 (by decide) (gh_r1 rfl) ?_
        exact gh_ret1 rfl gd_House_trees_54 ⟨hF, h⟩
      · have h := hB c1498
        refine gh_aload_n gd_House_trees_55 0 rfl (by decide) ?_
        refine gf_2_5 gd_House_trees_56 gh_k545 hF ?_
        refine cv_Chart_refresh (d := d + 32) gd_House_trees_59 gh_k907 hF (Nat.le_of_ble_eq_true rfl) (gh_C.mono (s_Chart_refresh (d + 27) hF h) (fun r1499 m1500 hq => ?_))
        obtain ⟨hF, h⟩ := hq
        refine gh_aload_n gd_House_trees_62 0 rfl (by decide) ?_
        refine gf_2_7 gd_House_trees_63 gh_k547 hF ?_
        refine gh_iload_n gd_House_trees_66 1 rfl ?_
        refine gh_iload_n gd_House_trees_67 2 rfl ?_
        refine gh_iload_n gd_House_trees_68 3 rfl ?_
        refine cv_Forest_treesOf (d := d + 32) gd_House_trees_69 gh_k1028 hF (Nat.le_of_ble_eq_true rfl) (gh_C.mono (s_Forest_treesOf d v1 v2 v3 hF h) (fun r1501 m1502 hq => ?_))
        obtain ⟨hF, h⟩ := hq
        refine gh_lstore (L2 := [(4, 1, r1501), (0, 2, 2), (1, 0, v1), (2, 0, v2), (3, 0, v3)]) gd_House_trees_72 (by decide) rfl ?_
        refine gh_lload gd_House_trees_74 0 rfl ?_
        refine gh_ldc2 (n := 1000000000000000000) gd_House_trees_76 gh_k1079 (by decide) (gh_r1 rfl) ?_
        refine gh_lcmp gd_House_trees_79 ?_
        have k1503 : ∀ x1504 : Int, x1504 = (if r1501 < 1000000000000000000 then r1501 else (-2)) → gh_T E (gh_yHouse_trees.cls, prog_1_method_26_code, 6, false, 1) (d + 33) 91 [(4, 1, r1501), (0, 2, 2), (1, 0, v1), (2, 0, v2), (3, 0, v3)] [(1, x1504)] m1502 (fun r m1 => gh_F m1 ∧ Q r m1) := by
          rintro _ rfl
          exact gh_ret1 rfl gd_House_trees_91 ⟨hF, h⟩
        refine gh_cge (tgt := 88) gd_House_trees_80 (by decide) (fun c1505 => ?_) (fun c1505 => ?_)
        · have hz : True := trivial
          refine gh_lload gd_House_trees_83 0 rfl ?_
          refine gh_goto (tgt := 91) gd_House_trees_85 (by decide) ?_
          exact k1503 _ (by rw [if_pos c1505])
        · have hz : True := trivial
          refine gh_ldc2 (n := (-2)) gd_House_trees_88 gh_k1080 (by decide) (gh_r1 rfl) ?_
          exact k1503 _ (by rw [if_neg c1505])
    · have h := hB c1497
      refine gh_ldc2 (n := (-1002)) gd_House_trees_40 gh_k1026 (by decide) (gh_r1 rfl) ?_
      exact gh_ret1 rfl gd_House_trees_43 ⟨hF, h⟩
  obtain ⟨hA, hB⟩ := h
  have k1506 : (((m 2 10) = 0) ∨ ((p_House_isName v1 m) ∧ ((p_House_isPlace v2 m) ∧ (p_House_isPlace v3 m)))) → gh_T E (gh_yHouse_trees.cls, prog_1_method_26_code, 6, false, 1) (d + 33) 35 [(0, 2, 2), (1, 0, v1), (2, 0, v2), (3, 0, v3)] [] m (fun r m1 => gh_F m1 ∧ Q r m1) := by
    intro c
    have h := hA c
    exact hJ35 hF h
  have k1507 : ¬ (((m 2 10) = 0) ∨ ((p_House_isName v1 m) ∧ ((p_House_isPlace v2 m) ∧ (p_House_isPlace v3 m)))) → gh_T E (gh_yHouse_trees.cls, prog_1_method_26_code, 6, false, 1) (d + 33) 31 [(0, 2, 2), (1, 0, v1), (2, 0, v2), (3, 0, v3)] [] m (fun r m1 => gh_F m1 ∧ Q r m1) := by
    intro c
    have h := hB c
    refine gh_ldc2 (n := (-1001)) gd_House_trees_31 gh_k1025 (by decide) (gh_r1 rfl) ?_
    exact gh_ret1 rfl gd_House_trees_34 ⟨hF, h⟩
  refine gh_zeq (tgt := 35) gd_House_trees_4 (by decide) (fun c1508 => ?_) (fun c1508 => ?_)
  · have hz : True := trivial
    exact k1506 (Or.inl c1508)
  · have hz : True := trivial
    refine gh_aload_n gd_House_trees_7 0 rfl (by decide) ?_
    refine gh_iload_n gd_House_trees_8 1 rfl ?_
    refine cv_House_isName (d := d + 32) gd_House_trees_9 gh_k1017 hF (Nat.le_of_ble_eq_true rfl) (gh_C.pe (e_House_isName (d + 32) v1 hF) ?_)
    refine gh_beq (tgt := 31) gd_House_trees_12 (by decide) (fun c1509 => ?_) (fun c1509 => ?_)
    · have hz : True := trivial
      refine gh_aload_n gd_House_trees_15 0 rfl (by decide) ?_
      refine gh_iload_n gd_House_trees_16 2 rfl ?_
      refine cv_House_isPlace (d := d + 32) gd_House_trees_17 gh_k903 hF (Nat.le_of_ble_eq_true rfl) (gh_C.pe (e_House_isPlace (d + 32) v2 hF) ?_)
      refine gh_beq (tgt := 31) gd_House_trees_20 (by decide) (fun c1510 => ?_) (fun c1510 => ?_)
      · have hz : True := trivial
        refine gh_aload_n gd_House_trees_23 0 rfl (by decide) ?_
        refine gh_iload_n gd_House_trees_24 3 rfl ?_
        refine cv_House_isPlace (d := d + 32) gd_House_trees_25 gh_k903 hF (Nat.le_of_ble_eq_true rfl) (gh_C.pe (e_House_isPlace (d + 32) v3 hF) ?_)
        refine gh_bne (tgt := 35) gd_House_trees_28 (by decide) (fun c1511 => ?_) (fun c1511 => ?_)
        · have hz : True := trivial
          exact k1506 (Or.inr ⟨c1509, ⟨c1510, c1511⟩⟩)
        · have hz : True := trivial
          exact k1507 (fun z => z.elim c1508 (fun z => (fun z => c1511 z.2) z.2))
      · have hz : True := trivial
        exact k1507 (fun z => z.elim c1508 (fun z => (fun z => c1510 z.1) z.2))
    · have hz : True := trivial
      exact k1507 (fun z => z.elim c1508 (fun z => c1509 z.1))
def w_House_properly (v1 : Int) (m : gh_M) (Q : Int → gh_M → Prop) : Prop := (((m 2 10) = 0 → Q (-1003) m) ∧ (¬ ((m 2 10) = 0) → ((p_House_isPlace v1 m → w_Chart_refresh m (fun _ m1515 => ((¬ (v1 ≤ 0) → (k_Chart_covers 0 0 v1))) ∧ Q (if (¬ (v1 ≤ 0) ∧ (p_Chart_covers 0 0 v1 m1515)) then (1:Int) else 0) m1515)) ∧ (¬ (p_House_isPlace v1 m) → Q (-1001) m))))
theorem s_House_properly {E : gh_E} {m : gh_M} {Q : Int → gh_M → Prop} (d : Nat) (v1 : Int) (hF : gh_F m) (h : w_House_properly v1 m Q) : gh_C E gh_yHouse_properly prog_1_method_31_code 2 (some .int) 0 (d + 6) [(2, 2), (0, v1)] m (fun r m1 => gh_F m1 ∧ Q r m1) := by
  refine gh_enter2 (L := [(0, 2, 2), (1, 0, v1)]) (by decide +kernel) gh_rt0 (Nat.le_of_ble_eq_true rfl) rfl rfl ?_
  unfold w_House_properly at h
  refine gh_aload_n gd_House_properly_0 0 rfl (by decide) ?_
  refine gf_2_10 gd_House_properly_1 gh_k550 hF rfl ?_
  obtain ⟨hA, hB⟩ := h
  refine gh_zne (tgt := 11) gd_House_properly_4 (by decide) (fun c1512 => ?_) (fun c1512 => ?_)
  · have h := hA c1512
    refine gh_sipush gd_House_properly_7 (by decide) (gh_r0 rfl) ?_
    exact gh_ret0 rfl gd_House_properly_10 ⟨hF, h⟩
  · have h := hB c1512
    refine gh_aload_n gd_House_properly_11 0 rfl (by decide) ?_
    refine gh_iload_n gd_House_properly_12 1 rfl ?_
    refine cv_House_isPlace (d := d + 5) gd_House_properly_13 gh_k903 hF (Nat.le_of_ble_eq_true rfl) (gh_C.pe (e_House_isPlace (d + 5) v1 hF) ?_)
    obtain ⟨hA, hB⟩ := h
    refine gh_bne (tgt := 23) gd_House_properly_16 (by decide) (fun c1513 => ?_) (fun c1513 => ?_)
    · have h := hA c1513
      refine gh_aload_n gd_House_properly_23 0 rfl (by decide) ?_
      refine gf_2_5 gd_House_properly_24 gh_k545 hF ?_
      refine cv_Chart_refresh (d := d + 5) gd_House_properly_27 gh_k907 hF (Nat.le_of_ble_eq_true rfl) (gh_C.mono (s_Chart_refresh d hF h) (fun r1514 m1515 hq => ?_))
      obtain ⟨hF, h⟩ := hq
      refine gh_iload_n gd_House_properly_30 1 rfl ?_
      obtain ⟨hk, h⟩ := h
      have k1517 : ∀ x1518 : Int, x1518 = (if (¬ (v1 ≤ 0) ∧ (p_Chart_covers 0 0 v1 m1515)) then (1:Int) else 0) → gh_T E (gh_yHouse_properly.cls, prog_1_method_31_code, 2, false, 0) (d + 6) 52 [(0, 2, 2), (1, 0, v1)] [(0, x1518)] m1515 (fun r m1 => gh_F m1 ∧ Q r m1) := by
        rintro _ rfl
        exact gh_ret0 rfl gd_House_properly_52 ⟨hF, h⟩
      refine gh_zle (tgt := 51) gd_House_properly_31 (by decide) (fun c1519 => ?_) (fun c1519 => ?_)
      · have hz : True := trivial
        refine gh_iconst gd_House_properly_51 (gh_r0 rfl) ?_
        exact k1517 _ (if_neg (c := (¬ (v1 ≤ 0) ∧ (p_Chart_covers 0 0 v1 m1515))) (fun z => z.1 c1519)).symm
      · have hz : True := trivial
        have hk := hk c1519
        refine gh_aload_n gd_House_properly_34 0 rfl (by decide) ?_
        refine gf_2_5 gd_House_properly_35 gh_k545 hF ?_
        refine gh_iconst gd_House_properly_38 (gh_r0 rfl) ?_
        refine gh_iconst gd_House_properly_39 (gh_r0 rfl) ?_
        refine gh_iload_n gd_House_properly_40 1 rfl ?_
        have q1516 := hk
        refine cv_Chart_covers (d := d + 5) gd_House_properly_41 gh_k947 hF (Nat.le_of_ble_eq_true rfl) (gh_C.pe (e_Chart_covers (d + 5) 0 0 v1 hF q1516) ?_)
        refine gh_beq (tgt := 51) gd_House_properly_44 (by decide) (fun c1520 => ?_) (fun c1520 => ?_)
        · have hz : True := trivial
          refine gh_iconst gd_House_properly_47 (gh_r0 rfl) ?_
          refine gh_goto (tgt := 52) gd_House_properly_48 (by decide) ?_
          exact k1517 _ (if_pos (c := (¬ (v1 ≤ 0) ∧ (p_Chart_covers 0 0 v1 m1515))) ⟨c1519, c1520⟩).symm
        · have hz : True := trivial
          refine gh_iconst gd_House_properly_51 (gh_r0 rfl) ?_
          exact k1517 _ (if_neg (c := (¬ (v1 ≤ 0) ∧ (p_Chart_covers 0 0 v1 m1515))) (fun z => c1520 z.2)).symm
    · have h := hB c1513
      refine gh_sipush gd_House_properly_19 (by decide) (gh_r0 rfl) ?_
      exact gh_ret0 rfl gd_House_properly_22 ⟨hF, h⟩
def w_House_items (v1 : Int) (m : gh_M) (Q : Int → gh_M → Prop) : Prop := (((m 2 10) = 0 → Q (-1003) m) ∧ (¬ ((m 2 10) = 0) → ((p_House_isPlace v1 m → w_Chart_refresh m (fun _ m1524 => 0 ≤ v1 ∧ v1 < 9 ∧ Q (m1524 34 v1) m1524)) ∧ (¬ (p_House_isPlace v1 m) → Q (-1001) m))))
theorem s_House_items {E : gh_E} {m : gh_M} {Q : Int → gh_M → Prop} (d : Nat) (v1 : Int) (hF : gh_F m) (h : w_House_items v1 m Q) : gh_C E gh_yHouse_items prog_1_method_21_code 2 (some .int) 0 (d + 6) [(2, 2), (0, v1)] m (fun r m1 => gh_F m1 ∧ Q r m1) := by
  refine gh_enter2 (L := [(0, 2, 2), (1, 0, v1)]) (by decide +kernel) gh_rt0 (Nat.le_of_ble_eq_true rfl) rfl rfl ?_
  unfold w_House_items at h
  refine gh_aload_n gd_House_items_0 0 rfl (by decide) ?_
  refine gf_2_10 gd_House_items_1 gh_k550 hF rfl ?_
  obtain ⟨hA, hB⟩ := h
  refine gh_zne (tgt := 11) gd_House_items_4 (by decide) (fun c1521 => ?_) (fun c1521 => ?_)
  · have h := hA c1521
    refine gh_sipush gd_House_items_7 (by decide) (gh_r0 rfl) ?_
    exact gh_ret0 rfl gd_House_items_10 ⟨hF, h⟩
  · have h := hB c1521
    refine gh_aload_n gd_House_items_11 0 rfl (by decide) ?_
    refine gh_iload_n gd_House_items_12 1 rfl ?_
    refine cv_House_isPlace (d := d + 5) gd_House_items_13 gh_k903 hF (Nat.le_of_ble_eq_true rfl) (gh_C.pe (e_House_isPlace (d + 5) v1 hF) ?_)
    obtain ⟨hA, hB⟩ := h
    refine gh_bne (tgt := 23) gd_House_items_16 (by decide) (fun c1522 => ?_) (fun c1522 => ?_)
    · have h := hA c1522
      refine gh_aload_n gd_House_items_23 0 rfl (by decide) ?_
      refine gf_2_5 gd_House_items_24 gh_k545 hF ?_
      refine cv_Chart_refresh (d := d + 5) gd_House_items_27 gh_k907 hF (Nat.le_of_ble_eq_true rfl) (gh_C.mono (s_Chart_refresh d hF h) (fun r1523 m1524 hq => ?_))
      obtain ⟨hF, h⟩ := hq
      refine gh_aload_n gd_House_items_30 0 rfl (by decide) ?_
      refine gf_2_5 gd_House_items_31 gh_k545 hF ?_
      refine gf_30_7 gd_House_items_34 gh_k338 hF ?_
      refine gh_iload_n gd_House_items_37 1 rfl ?_
      obtain ⟨q1525, h⟩ := h
      obtain ⟨q1526, h⟩ := h
      refine la_34 gd_House_items_38 hF q1525 q1526 rfl ?_
      exact gh_ret0 rfl gd_House_items_39 ⟨hF, h⟩
    · have h := hB c1522
      refine gh_sipush gd_House_items_19 (by decide) (gh_r0 rfl) ?_
      exact gh_ret0 rfl gd_House_items_22 ⟨hF, h⟩
def f_Wants_costUpTo_20 (v1 : Int) (v2 : Int) (v3 : Int) (v4 : Int) (Q : Int → Prop) (m : gh_M) (K20 : Int → Int → Int → Prop) (v5 : Int) (v6 : Int) (v7 : Int) : Prop := ((v7 < v2 → Q v5) ∧ (¬ (v7 < v2) → gh_i (v3 - v7) ∧ ∀ v8 : Int, v8 = v3 - v7 → ((¬ (v8 ≤ 0) → (((v4 = (-1)) → (k_Text_fits v1 v7 m))))) ∧ ∀ v6' : Int, v6' = gh_ior_f v6 (if (¬ (v8 ≤ 0) ∧ ((v4 = (-1)) ∧ (p_Text_fits v1 v7 m))) then (1:Int) else 0) → 0 ≤ v7 ∧ v7 < 9 ∧ ∃ J128 : Int → Prop, (∀ (v5' : Int), J128 v5' → gh_i (v7 + (-1)) ∧ K20 v5' v6' (v7 + (-1))) ∧ (((m 40 v7) < v5 → (((v4 = (-1)) → (gh_i ((max v8 1) - v6'))) ∧ (¬ (v4 = (-1)) → ((gh_i (v4 * 9) ∧ gh_i ((v4 * 9) + v7) ∧ gh_i (((v4 * 9) + v7) * 9) ∧ gh_i ((((v4 * 9) + v7) * 9) + v3)) ∧ 0 ≤ ((((v4 * 9) + v7) * 9) + v3) ∧ (((((v4 * 9) + v7) * 9) + v3)) < 648))) ∧ ∀ v9 : Int, v9 = (if v4 = (-1) then ((max v8 1) - v6') else (m 39 (((((v4 * 9) + v7) * 9) + v3)))) → 0 ≤ v7 ∧ v7 < 9 ∧ gh_i ((m 40 v7) + v9) ∧ ∀ v5' : Int, v5' = min v5 ((m 40 v7) + v9) → J128 v5') ∧ (¬ ((m 40 v7) < v5) → J128 v5))))
def w_Wants_costUpTo (v1 : Int) (v2 : Int) (v3 : Int) (m : gh_M) (Q : Int → Prop) : Prop := k_Grammar_nameOf v1 m ∧ ∀ v4 : Int, v4 = x_Grammar_nameOf v1 m → gh_L3 (fun K20 v5 v6 v7 => f_Wants_costUpTo_20 v1 v2 v3 v4 Q m K20 v5 v6 v7) 16777216 0 v3
theorem b_Wants_costUpTo_20 {E : gh_E} {v1 : Int} {v2 : Int} {v3 : Int} {v4 : Int} {Q : Int → Prop} {K20 : Int → Int → Int → Prop} (d : Nat) {m : gh_M} (hK : ∀ (v5 : Int) (v6 : Int) (v7 : Int), gh_F m → K20 v5 v6 v7 → gh_T E (gh_yWants_costUpTo.cls, prog_12_method_10_code, 10, false, 0) (d + 1) 20 [(0, 2, 36), (1, 0, v1), (2, 0, v2), (3, 0, v3), (4, 0, v4), (5, 0, v5), (6, 0, v6), (7, 0, v7)] [] m (fun r m1 => m1 = m ∧ Q r)) (v5 : Int) (v6 : Int) (v7 : Int) (hF : gh_F m) (h : f_Wants_costUpTo_20 v1 v2 v3 v4 Q m K20 v5 v6 v7) : gh_T E (gh_yWants_costUpTo.cls, prog_12_method_10_code, 10, false, 0) (d + 1) 20 [(0, 2, 36), (1, 0, v1), (2, 0, v2), (3, 0, v3), (4, 0, v4), (5, 0, v5), (6, 0, v6), (7, 0, v7)] [] m (fun r m1 => m1 = m ∧ Q r) := by
  have hK20 := hK
  unfold f_Wants_costUpTo_20 at h
  refine gh_iload gd_Wants_costUpTo_20 7 rfl ?_
  refine gh_iload_n gd_Wants_costUpTo_22 2 rfl ?_
  obtain ⟨hA, hB⟩ := h
  refine gh_jlt (tgt := 134) gd_Wants_costUpTo_23 (by decide) (fun c1528 => ?_) (fun c1528 => ?_)
  · have h := hA c1528
    refine gh_iload gd_Wants_costUpTo_134 5 rfl ?_
    exact gh_ret0 rfl gd_Wants_costUpTo_136 ⟨rfl, h⟩
  · have h := hB c1528
    refine gh_iload_n gd_Wants_costUpTo_26 3 rfl ?_
    refine gh_iload gd_Wants_costUpTo_27 7 rfl ?_
    obtain ⟨q1529, h⟩ := h
    refine gh_isub gd_Wants_costUpTo_29 q1529 ?_
    refine gh_name (fun v8 hn => ?_)
    have h := h v8 hn
    refine gh_istore (L2 := [(8, 0, v8), (0, 2, 36), (1, 0, v1), (2, 0, v2), (3, 0, v3), (4, 0, v4), (5, 0, v5), (6, 0, v6), (7, 0, v7)]) gd_Wants_costUpTo_30 (by decide) rfl ?_
    refine gh_iload gd_Wants_costUpTo_32 7 rfl ?_
    refine gh_iload gd_Wants_costUpTo_34 0 rfl ?_
    obtain ⟨hk, h⟩ := h
    have k1531 : ∀ x1532 : Int, x1532 = (if (¬ (v8 ≤ 0) ∧ ((v4 = (-1)) ∧ (p_Text_fits v1 v7 m))) then (1:Int) else 0) → gh_T E (gh_yWants_costUpTo.cls, prog_12_method_10_code, 10, false, 0) (d + 1) 63 [(8, 0, v8), (0, 2, 36), (1, 0, v1), (2, 0, v2), (3, 0, v3), (4, 0, v4), (5, 0, v5), (6, 0, v6), (7, 0, v7)] [(0, x1532), (0, v6)] m (fun r m1 => m1 = m ∧ Q r) := by
      rintro _ rfl
      refine gh_ior gd_Wants_costUpTo_63 ?_
      refine gh_name (fun v6' hn => ?_)
      have h := h v6' hn
      refine gh_istore (L2 := [(6, 0, v6'), (8, 0, v8), (0, 2, 36), (1, 0, v1), (2, 0, v2), (3, 0, v3), (4, 0, v4), (5, 0, v5), (7, 0, v7)]) gd_Wants_costUpTo_64 (by decide) rfl ?_
      refine gh_aload_n gd_Wants_costUpTo_66 2 rfl (by decide) ?_
      refine gf_36_9 gd_Wants_costUpTo_67 gh_k375 hF ?_
      refine gh_iload gd_Wants_costUpTo_70 8 rfl ?_
      obtain ⟨q1533, h⟩ := h
      obtain ⟨q1534, h⟩ := h
      refine la_40 gd_Wants_costUpTo_72 hF q1533 q1534 rfl ?_
      refine gh_iload gd_Wants_costUpTo_73 7 rfl ?_
      obtain ⟨J128, hJ128, h⟩ := h
      have hJ128 : ∀ (v5' : Int), gh_F m → J128 v5' → gh_T E (gh_yWants_costUpTo.cls, prog_12_method_10_code, 10, false, 0) (d + 1) 128 [(0, 2, 36), (1, 0, v1), (2, 0, v2), (3, 0, v3), (4, 0, v4), (5, 0, v5'), (6, 0, v6'), (7, 0, v7)] [] m (fun r m1 => m1 = m ∧ Q r) := by
        intro v5' hF hj
        have h := hJ128 v5' hj
        obtain ⟨q1535, h⟩ := h
        refine gh_iinc (L2 := [(7, 0, v7 + (-1)), (0, 2, 36), (1, 0, v1), (2, 0, v2), (3, 0, v3), (4, 0, v4), (5, 0, v5'), (6, 0, v6')]) gd_Wants_costUpTo_128 7 rfl q1535 (by decide) rfl ?_
        refine gh_goto (tgt := 20) gd_Wants_costUpTo_131 (by decide) ?_
        refine gh_pick (L2 := [(0, 2, 36), (1, 0, v1), (2, 0, v2), (3, 0, v3), (4, 0, v4), (5, 0, v5'), (6, 0, v6'), (7, 0, v7 + (-1))]) [1, 2, 3, 4, 5, 6, 7, 0] rfl ?_
        exact hK20 v5' v6' (v7 + (-1)) hF h
      obtain ⟨hA, hB⟩ := h
      refine gh_jge (tgt := 128) gd_Wants_costUpTo_75 (by decide) (fun c1536 => ?_) (fun c1536 => ?_)
      · have h := hA c1536
        refine gh_iload gd_Wants_costUpTo_78 6 rfl ?_
        refine gh_iconst gd_Wants_costUpTo_80 (gh_r0 rfl) ?_
        obtain ⟨hk, h⟩ := h
        have k1541 : ∀ x1542 : Int, x1542 = (if v4 = (-1) then ((max v8 1) - v6') else (m 39 (((((v4 * 9) + v7) * 9) + v3)))) → gh_T E (gh_yWants_costUpTo.cls, prog_12_method_10_code, 10, false, 0) (d + 1) 109 [(6, 0, v6'), (8, 0, v8), (0, 2, 36), (1, 0, v1), (2, 0, v2), (3, 0, v3), (4, 0, v4), (5, 0, v5), (7, 0, v7)] [(0, x1542)] m (fun r m1 => m1 = m ∧ Q r) := by
          rintro _ rfl
          refine gh_name (fun v9 hn => ?_)
          have h := h v9 hn
          refine gh_istore (L2 := [(9, 0, v9), (6, 0, v6'), (8, 0, v8), (0, 2, 36), (1, 0, v1), (2, 0, v2), (3, 0, v3), (4, 0, v4), (5, 0, v5), (7, 0, v7)]) gd_Wants_costUpTo_109 (by decide) rfl ?_
          refine gh_iload gd_Wants_costUpTo_111 8 rfl ?_
          refine gh_aload_n gd_Wants_costUpTo_113 3 rfl (by decide) ?_
          refine gf_36_9 gd_Wants_costUpTo_114 gh_k375 hF ?_
          refine gh_iload gd_Wants_costUpTo_117 9 rfl ?_
          obtain ⟨q1543, h⟩ := h
          obtain ⟨q1544, h⟩ := h
          refine la_40 gd_Wants_costUpTo_119 hF q1543 q1544 rfl ?_
          refine gh_iload gd_Wants_costUpTo_120 0 rfl ?_
          obtain ⟨q1545, h⟩ := h
          refine gh_iadd gd_Wants_costUpTo_122 q1545 ?_
          refine gh_pr_min gd_Wants_costUpTo_123 gh_k831 (Nat.le_of_ble_eq_true rfl) ?_
          refine gh_name (fun v5' hn => ?_)
          have h := h v5' hn
          refine gh_istore (L2 := [(5, 0, v5'), (9, 0, v9), (6, 0, v6'), (8, 0, v8), (0, 2, 36), (1, 0, v1), (2, 0, v2), (3, 0, v3), (4, 0, v4), (7, 0, v7)]) gd_Wants_costUpTo_126 (by decide) rfl ?_
          refine gh_pick (L2 := [(0, 2, 36), (1, 0, v1), (2, 0, v2), (3, 0, v3), (4, 0, v4), (5, 0, v5'), (6, 0, v6'), (7, 0, v7)]) [4, 5, 6, 7, 8, 0, 2, 9] rfl ?_
          exact hJ128 v5' hF h
        refine gh_jeq (tgt := 100) gd_Wants_costUpTo_81 (by decide) (fun c1546 => ?_) (fun c1546 => ?_)
        · have hz : True := trivial
          have hk := hk.1 c1546
          refine gh_iload gd_Wants_costUpTo_100 1 rfl ?_
          refine gh_iconst gd_Wants_costUpTo_102 (gh_r0 rfl) ?_
          refine gh_pr_max gd_Wants_costUpTo_103 gh_k1115 (Nat.le_of_ble_eq_true rfl) ?_
          refine gh_iload gd_Wants_costUpTo_106 0 rfl ?_
          have q1537 := hk
          refine gh_isub gd_Wants_costUpTo_108 q1537 ?_
          exact k1541 _ (by rw [if_pos c1546])
        · have hz : True := trivial
          have hk := hk.2 c1546
          refine gh_aload_n gd_Wants_costUpTo_84 2 rfl (by decide) ?_
          refine gf_36_8 gd_Wants_costUpTo_85 gh_k374 hF ?_
          refine gh_iload gd_Wants_costUpTo_88 6 rfl ?_
          refine gh_iload gd_Wants_costUpTo_90 8 rfl ?_
          refine gh_iload_n gd_Wants_costUpTo_92 5 rfl ?_
          obtain ⟨q1538, hk⟩ := hk
          refine cv_Wants_costAt (d := d) gd_Wants_costUpTo_93 gh_k1101 (Nat.le_of_ble_eq_true rfl) (gh_C.pe (e_Wants_costAt d v4 v7 v3 q1538) ?_)
          obtain ⟨q1539, hk⟩ := hk
          have q1540 := hk
          refine la_39 gd_Wants_costUpTo_96 hF q1539 q1540 rfl ?_
          refine gh_goto (tgt := 109) gd_Wants_costUpTo_97 (by decide) ?_
          exact k1541 _ (by rw [if_neg c1546])
      · have h := hB c1536
        refine gh_pick (L2 := [(0, 2, 36), (1, 0, v1), (2, 0, v2), (3, 0, v3), (4, 0, v4), (5, 0, v5), (6, 0, v6'), (7, 0, v7)]) [2, 3, 4, 5, 6, 7, 0, 8] rfl ?_
        exact hJ128 v5 hF h
    refine gh_zle (tgt := 62) gd_Wants_costUpTo_36 (by decide) (fun c1547 => ?_) (fun c1547 => ?_)
    · have hz : True := trivial
      refine gh_iconst gd_Wants_costUpTo_62 (gh_r0 rfl) ?_
      exact k1531 _ (if_neg (c := (¬ (v8 ≤ 0) ∧ ((v4 = (-1)) ∧ (p_Text_fits v1 v7 m)))) (fun z => z.1 c1547)).symm
    · have hz : True := trivial
      have hk := hk c1547
      refine gh_iload gd_Wants_costUpTo_39 5 rfl ?_
      refine gh_iconst gd_Wants_costUpTo_41 (gh_r0 rfl) ?_
      refine gh_jne (tgt := 62) gd_Wants_costUpTo_42 (by decide) (fun c1548 => ?_) (fun c1548 => ?_)
      · have hz : True := trivial
        have hk := hk c1548
        refine gh_aload_n gd_Wants_costUpTo_45 1 rfl (by decide) ?_
        refine gf_36_2 gd_Wants_costUpTo_46 gh_k368 hF ?_
        refine gh_iload_n gd_Wants_costUpTo_49 2 rfl ?_
        refine gh_iload gd_Wants_costUpTo_50 8 rfl ?_
        have q1530 := hk
        refine cv_Text_fits (d := d) gd_Wants_costUpTo_52 gh_k1114 hF (Nat.le_of_ble_eq_true rfl) (gh_C.pe (e_Text_fits d v1 v7 hF q1530) ?_)
        refine gh_beq (tgt := 62) gd_Wants_costUpTo_55 (by decide) (fun c1549 => ?_) (fun c1549 => ?_)
        · have hz : True := trivial
          refine gh_iconst gd_Wants_costUpTo_58 (gh_r0 rfl) ?_
          refine gh_goto (tgt := 63) gd_Wants_costUpTo_59 (by decide) ?_
          exact k1531 _ (if_pos (c := (¬ (v8 ≤ 0) ∧ ((v4 = (-1)) ∧ (p_Text_fits v1 v7 m)))) ⟨c1547, ⟨c1548, c1549⟩⟩).symm
        · have hz : True := trivial
          refine gh_iconst gd_Wants_costUpTo_62 (gh_r0 rfl) ?_
          exact k1531 _ (if_neg (c := (¬ (v8 ≤ 0) ∧ ((v4 = (-1)) ∧ (p_Text_fits v1 v7 m)))) (fun z => (fun z => c1549 z.2) z.2)).symm
      · have hz : True := trivial
        refine gh_iconst gd_Wants_costUpTo_62 (gh_r0 rfl) ?_
        exact k1531 _ (if_neg (c := (¬ (v8 ≤ 0) ∧ ((v4 = (-1)) ∧ (p_Text_fits v1 v7 m)))) (fun z => (fun z => c1548 z.1) z.2)).symm
theorem s_Wants_costUpTo {E : gh_E} {m : gh_M} {Q : Int → Prop} (d : Nat) (v1 : Int) (v2 : Int) (v3 : Int) (hF : gh_F m) (h : w_Wants_costUpTo v1 v2 v3 m Q) : gh_C E gh_yWants_costUpTo prog_12_method_10_code 10 (some .int) 0 (d + 1) [(2, 36), (0, v1), (0, v2), (0, v3)] m (fun r m1 => m1 = m ∧ Q r) := by
  refine gh_enter2 (L := [(0, 2, 36), (1, 0, v1), (2, 0, v2), (3, 0, v3)]) (by decide +kernel) gh_rt0 (Nat.le_of_ble_eq_true rfl) rfl rfl ?_
  unfold w_Wants_costUpTo at h
  refine gh_aload_n gd_Wants_costUpTo_0 0 rfl (by decide) ?_
  refine gf_36_0 gd_Wants_costUpTo_1 gh_k366 hF ?_
  refine gh_iload_n gd_Wants_costUpTo_4 1 rfl ?_
  obtain ⟨q1527, h⟩ := h
  refine cv_Grammar_nameOf (d := d) gd_Wants_costUpTo_5 gh_k1113 hF (Nat.le_of_ble_eq_true rfl) (gh_C.pe (e_Grammar_nameOf d v1 hF q1527) ?_)
  refine gh_name (fun v4 hn => ?_)
  have h := h v4 hn
  refine gh_istore (L2 := [(4, 0, v4), (0, 2, 36), (1, 0, v1), (2, 0, v2), (3, 0, v3)]) gd_Wants_costUpTo_8 (by decide) rfl ?_
  refine gh_ldc (n := 16777216) gd_Wants_costUpTo_10 gh_k999 (by decide) (gh_r0 rfl) ?_
  refine gh_istore (L2 := [(5, 0, 16777216), (4, 0, v4), (0, 2, 36), (1, 0, v1), (2, 0, v2), (3, 0, v3)]) gd_Wants_costUpTo_12 (by decide) rfl ?_
  refine gh_iconst gd_Wants_costUpTo_14 (gh_r0 rfl) ?_
  refine gh_istore (L2 := [(6, 0, 0), (5, 0, 16777216), (4, 0, v4), (0, 2, 36), (1, 0, v1), (2, 0, v2), (3, 0, v3)]) gd_Wants_costUpTo_15 (by decide) rfl ?_
  refine gh_iload_n gd_Wants_costUpTo_17 6 rfl ?_
  refine gh_istore (L2 := [(7, 0, v3), (6, 0, 0), (5, 0, 16777216), (4, 0, v4), (0, 2, 36), (1, 0, v1), (2, 0, v2), (3, 0, v3)]) gd_Wants_costUpTo_18 (by decide) rfl ?_
  refine gh_pick (L2 := [(0, 2, 36), (1, 0, v1), (2, 0, v2), (3, 0, v3), (4, 0, v4), (5, 0, 16777216), (6, 0, 0), (7, 0, v3)]) [4, 5, 6, 7, 3, 2, 1, 0] rfl ?_
  exact gh_L3_sound (T := fun v5 v6 v7 => gh_T E (gh_yWants_costUpTo.cls, prog_12_method_10_code, 10, false, 0) (d + 1) 20 [(0, 2, 36), (1, 0, v1), (2, 0, v2), (3, 0, v3), (4, 0, v4), (5, 0, v5), (6, 0, v6), (7, 0, v7)] [] m (fun r m1 => m1 = m ∧ Q r)) (fun _ _ _ => gh_F m) (fun K20 v5 v6 v7 hK hF h => b_Wants_costUpTo_20 d hK v5 v6 v7 hF h) 16777216 0 v3 hF h
def f_Wants_costOfRow_87 (v1 : Int) (v2 : Int) (v3 : Int) (v4 : Int) (v5 : Int) (v6 : Int) (K35 : Int → gh_M → Prop) (K87 : Int → gh_M → Prop) (v7 : Int) (m : gh_M) : Prop := ((v7 < v6 → gh_i (v4 + 1) ∧ K35 (v4 + 1) m) ∧ (¬ (v7 < v6) → w_Wants_costUpTo v5 v2 v7 m (fun r1567 => 0 ≤ v7 ∧ v7 < 9 ∧ gh_i (v7 + (-1)) ∧ K87 (v7 + (-1)) (gh_u m 40 v7 r1567))))
def f_Wants_costOfRow_35 (v1 : Int) (v2 : Int) (v3 : Int) (Q : Int → gh_M → Prop) (K35 : Int → gh_M → Prop) (v4 : Int) (m : gh_M) : Prop := 0 ≤ v1 ∧ v1 < 20 ∧ ((v4 < (m 17 v1) → k_Grammar_partAt v1 v4 m ∧ ∀ v5 : Int, v5 = x_Grammar_partAt v1 v4 m → 0 ≤ v1 ∧ v1 < 20 ∧ gh_i ((m 17 v1) - 1) ∧ ∀ v6 : Int, v6 = (if v4 = ((m 17 v1) - 1) then v3 else v2) → gh_M1 (fun K87 v7 m => f_Wants_costOfRow_87 v1 v2 v3 v4 v5 v6 K35 K87 v7 m) v3 m) ∧ (¬ (v4 < (m 17 v1)) → 0 ≤ v3 ∧ v3 < 9 ∧ Q (m 40 v3) m))
def w_Wants_costOfRow (v1 : Int) (v2 : Int) (v3 : Int) (m : gh_M) (Q : Int → gh_M → Prop) : Prop := 0 ≤ v1 ∧ v1 < 20 ∧ (((m 17 v1) = 0 → gh_i (v3 - v2) ∧ Q (v3 - v2) m) ∧ (¬ ((m 17 v1) = 0) → 0 ≤ v2 ∧ v2 < 9 ∧ gh_M1 (fun K35 v4 m => f_Wants_costOfRow_35 v1 v2 v3 Q K35 v4 m) 0 (gh_u (gh_fil m 40 9 16777216) 40 v2 0)))
theorem b_Wants_costOfRow_87 {E : gh_E} {v1 : Int} {v2 : Int} {v3 : Int} {v4 : Int} {v5 : Int} {v6 : Int} {K35 : Int → gh_M → Prop} {Q : Int → gh_M → Prop} {K87 : Int → gh_M → Prop} (d : Nat) (hK35 : ∀ (v4 : Int) (m : gh_M), gh_F m → K35 v4 m → gh_T E (gh_yWants_costOfRow.cls, prog_12_method_9_code, 8, false, 0) (d + 2) 35 [(0, 2, 36), (1, 0, v1), (2, 0, v2), (3, 0, v3), (4, 0, v4)] [] m (fun r m1 => gh_F m1 ∧ Q r m1)) (hK : ∀ (v7 : Int) (m : gh_M), gh_F m → K87 v7 m → gh_T E (gh_yWants_costOfRow.cls, prog_12_method_9_code, 8, false, 0) (d + 2) 87 [(0, 2, 36), (1, 0, v1), (2, 0, v2), (3, 0, v3), (4, 0, v4), (5, 0, v5), (6, 0, v6), (7, 0, v7)] [] m (fun r m1 => gh_F m1 ∧ Q r m1)) (v7 : Int) (m : gh_M) (hF : gh_F m) (h : f_Wants_costOfRow_87 v1 v2 v3 v4 v5 v6 K35 K87 v7 m) : gh_T E (gh_yWants_costOfRow.cls, prog_12_method_9_code, 8, false, 0) (d + 2) 87 [(0, 2, 36), (1, 0, v1), (2, 0, v2), (3, 0, v3), (4, 0, v4), (5, 0, v5), (6, 0, v6), (7, 0, v7)] [] m (fun r m1 => gh_F m1 ∧ Q r m1) := by
  have hK87 := hK
  unfold f_Wants_costOfRow_87 at h
  refine gh_iload gd_Wants_costOfRow_87 7 rfl ?_
  refine gh_iload gd_Wants_costOfRow_89 6 rfl ?_
  obtain ⟨hA, hB⟩ := h
  refine gh_jlt (tgt := 116) gd_Wants_costOfRow_91 (by decide) (fun c1565 => ?_) (fun c1565 => ?_)
  · have h := hA c1565
    obtain ⟨q1566, h⟩ := h
    refine gh_iinc (L2 := [(4, 0, v4 + 1), (0, 2, 36), (1, 0, v1), (2, 0, v2), (3, 0, v3), (5, 0, v5), (6, 0, v6), (7, 0, v7)]) gd_Wants_costOfRow_116 4 rfl q1566 (by decide) rfl ?_
    refine gh_goto (tgt := 35) gd_Wants_costOfRow_119 (by decide) ?_
    refine gh_pick (L2 := [(0, 2, 36), (1, 0, v1), (2, 0, v2), (3, 0, v3), (4, 0, v4 + 1)]) [1, 2, 3, 4, 0] rfl ?_
    exact hK35 (v4 + 1) m hF h
  · have h := hB c1565
    refine gh_aload_n gd_Wants_costOfRow_94 0 rfl (by decide) ?_
    refine gf_36_9 gd_Wants_costOfRow_95 gh_k375 hF ?_
    refine gh_iload gd_Wants_costOfRow_98 7 rfl ?_
    refine gh_aload_n gd_Wants_costOfRow_100 0 rfl (by decide) ?_
    refine gh_iload gd_Wants_costOfRow_101 5 rfl ?_
    refine gh_iload_n gd_Wants_costOfRow_103 2 rfl ?_
    refine gh_iload gd_Wants_costOfRow_104 7 rfl ?_
    refine cv_Wants_costUpTo (d := d + 1) gd_Wants_costOfRow_106 gh_k1109 hF (Nat.le_of_ble_eq_true rfl) (gh_C.pw (s_Wants_costUpTo d v5 v2 v7 hF h) (fun r1567 h => ?_))
    obtain ⟨q1569, h⟩ := h
    obtain ⟨q1570, h⟩ := h
    refine sa_40 gd_Wants_costOfRow_109 hF q1569 q1570 (fun hF => ?_)
    obtain ⟨q1571, h⟩ := h
    refine gh_iinc (L2 := [(7, 0, v7 + (-1)), (0, 2, 36), (1, 0, v1), (2, 0, v2), (3, 0, v3), (4, 0, v4), (5, 0, v5), (6, 0, v6)]) gd_Wants_costOfRow_110 7 rfl q1571 (by decide) rfl ?_
    refine gh_goto (tgt := 87) gd_Wants_costOfRow_113 (by decide) ?_
    refine gh_pick (L2 := [(0, 2, 36), (1, 0, v1), (2, 0, v2), (3, 0, v3), (4, 0, v4), (5, 0, v5), (6, 0, v6), (7, 0, v7 + (-1))]) [1, 2, 3, 4, 5, 6, 7, 0] rfl ?_
    exact hK87 (v7 + (-1)) (gh_u m 40 v7 r1567) hF h
theorem b_Wants_costOfRow_35 {E : gh_E} {v1 : Int} {v2 : Int} {v3 : Int} {Q : Int → gh_M → Prop} {K35 : Int → gh_M → Prop} (d : Nat) (hK : ∀ (v4 : Int) (m : gh_M), gh_F m → K35 v4 m → gh_T E (gh_yWants_costOfRow.cls, prog_12_method_9_code, 8, false, 0) (d + 2) 35 [(0, 2, 36), (1, 0, v1), (2, 0, v2), (3, 0, v3), (4, 0, v4)] [] m (fun r m1 => gh_F m1 ∧ Q r m1)) (v4 : Int) (m : gh_M) (hF : gh_F m) (h : f_Wants_costOfRow_35 v1 v2 v3 Q K35 v4 m) : gh_T E (gh_yWants_costOfRow.cls, prog_12_method_9_code, 8, false, 0) (d + 2) 35 [(0, 2, 36), (1, 0, v1), (2, 0, v2), (3, 0, v3), (4, 0, v4)] [] m (fun r m1 => gh_F m1 ∧ Q r m1) := by
  have hK35 := hK
  unfold f_Wants_costOfRow_35 at h
  refine gh_iload gd_Wants_costOfRow_35 4 rfl ?_
  refine gh_aload_n gd_Wants_costOfRow_37 0 rfl (by decide) ?_
  refine gf_36_0 gd_Wants_costOfRow_38 gh_k366 hF ?_
  refine gf_13_6 gd_Wants_costOfRow_41 gh_k206 hF ?_
  refine gh_iload_n gd_Wants_costOfRow_44 1 rfl ?_
  obtain ⟨q1556, h⟩ := h
  obtain ⟨q1557, h⟩ := h
  refine la_17 gd_Wants_costOfRow_45 hF q1556 q1557 rfl ?_
  obtain ⟨hA, hB⟩ := h
  refine gh_jge (tgt := 122) gd_Wants_costOfRow_46 (by decide) (fun c1558 => ?_) (fun c1558 => ?_)
  · have h := hA c1558
    refine gh_aload_n gd_Wants_costOfRow_49 0 rfl (by decide) ?_
    refine gf_36_0 gd_Wants_costOfRow_50 gh_k366 hF ?_
    refine gh_iload_n gd_Wants_costOfRow_53 1 rfl ?_
    refine gh_iload gd_Wants_costOfRow_54 4 rfl ?_
    obtain ⟨q1559, h⟩ := h
    refine cv_Grammar_partAt (d := d + 1) gd_Wants_costOfRow_56 gh_k1007 hF (Nat.le_of_ble_eq_true rfl) (gh_C.pe (e_Grammar_partAt (d + 1) v1 v4 hF q1559) ?_)
    refine gh_name (fun v5 hn => ?_)
    have h := h v5 hn
    refine gh_istore (L2 := [(5, 0, v5), (0, 2, 36), (1, 0, v1), (2, 0, v2), (3, 0, v3), (4, 0, v4)]) gd_Wants_costOfRow_59 (by decide) rfl ?_
    refine gh_iload gd_Wants_costOfRow_61 5 rfl ?_
    refine gh_aload_n gd_Wants_costOfRow_63 1 rfl (by decide) ?_
    refine gf_36_0 gd_Wants_costOfRow_64 gh_k366 hF ?_
    refine gf_13_6 gd_Wants_costOfRow_67 gh_k206 hF ?_
    refine gh_iload_n gd_Wants_costOfRow_70 2 rfl ?_
    obtain ⟨q1560, h⟩ := h
    obtain ⟨q1561, h⟩ := h
    refine la_17 gd_Wants_costOfRow_71 hF q1560 q1561 rfl ?_
    refine gh_iconst gd_Wants_costOfRow_72 (gh_r0 rfl) ?_
    obtain ⟨q1562, h⟩ := h
    refine gh_isub gd_Wants_costOfRow_73 q1562 ?_
    have k1563 : ∀ x1564 : Int, x1564 = (if v4 = ((m 17 v1) - 1) then v3 else v2) → gh_T E (gh_yWants_costOfRow.cls, prog_12_method_9_code, 8, false, 0) (d + 2) 82 [(5, 0, v5), (0, 2, 36), (1, 0, v1), (2, 0, v2), (3, 0, v3), (4, 0, v4)] [(0, x1564)] m (fun r m1 => gh_F m1 ∧ Q r m1) := by
      rintro _ rfl
      refine gh_name (fun v6 hn => ?_)
      have h := h v6 hn
      refine gh_istore (L2 := [(6, 0, v6), (5, 0, v5), (0, 2, 36), (1, 0, v1), (2, 0, v2), (3, 0, v3), (4, 0, v4)]) gd_Wants_costOfRow_82 (by decide) rfl ?_
      refine gh_iload_n gd_Wants_costOfRow_84 5 rfl ?_
      refine gh_istore (L2 := [(7, 0, v3), (6, 0, v6), (5, 0, v5), (0, 2, 36), (1, 0, v1), (2, 0, v2), (3, 0, v3), (4, 0, v4)]) gd_Wants_costOfRow_85 (by decide) rfl ?_
      refine gh_pick (L2 := [(0, 2, 36), (1, 0, v1), (2, 0, v2), (3, 0, v3), (4, 0, v4), (5, 0, v5), (6, 0, v6), (7, 0, v3)]) [3, 4, 5, 6, 7, 2, 1, 0] rfl ?_
      exact gh_M1_sound (T := fun v7 m => gh_T E (gh_yWants_costOfRow.cls, prog_12_method_9_code, 8, false, 0) (d + 2) 87 [(0, 2, 36), (1, 0, v1), (2, 0, v2), (3, 0, v3), (4, 0, v4), (5, 0, v5), (6, 0, v6), (7, 0, v7)] [] m (fun r m1 => gh_F m1 ∧ Q r m1)) (fun _ m => gh_F m) (fun K87 v7 m hK hF h => b_Wants_costOfRow_87 d hK35 hK v7 m hF h) v3 m hF h
    refine gh_jne (tgt := 81) gd_Wants_costOfRow_74 (by decide) (fun c1572 => ?_) (fun c1572 => ?_)
    · have hz : True := trivial
      refine gh_iload_n gd_Wants_costOfRow_77 4 rfl ?_
      refine gh_goto (tgt := 82) gd_Wants_costOfRow_78 (by decide) ?_
      exact k1563 _ (by rw [if_pos c1572])
    · have hz : True := trivial
      refine gh_iload_n gd_Wants_costOfRow_81 3 rfl ?_
      exact k1563 _ (by rw [if_neg c1572])
  · have h := hB c1558
    refine gh_aload_n gd_Wants_costOfRow_122 0 rfl (by decide) ?_
    refine gf_36_9 gd_Wants_costOfRow_123 gh_k375 hF ?_
    refine gh_iload_n gd_Wants_costOfRow_126 3 rfl ?_
    obtain ⟨q1573, h⟩ := h
    obtain ⟨q1574, h⟩ := h
    refine la_40 gd_Wants_costOfRow_127 hF q1573 q1574 rfl ?_
    exact gh_ret0 rfl gd_Wants_costOfRow_128 ⟨hF, h⟩
theorem s_Wants_costOfRow {E : gh_E} {m : gh_M} {Q : Int → gh_M → Prop} (d : Nat) (v1 : Int) (v2 : Int) (v3 : Int) (hF : gh_F m) (h : w_Wants_costOfRow v1 v2 v3 m Q) : gh_C E gh_yWants_costOfRow prog_12_method_9_code 8 (some .int) 0 (d + 2) [(2, 36), (0, v1), (0, v2), (0, v3)] m (fun r m1 => gh_F m1 ∧ Q r m1) := by
  refine gh_enter2 (L := [(0, 2, 36), (1, 0, v1), (2, 0, v2), (3, 0, v3)]) (by decide +kernel) gh_rt0 (Nat.le_of_ble_eq_true rfl) rfl rfl ?_
  unfold w_Wants_costOfRow at h
  refine gh_aload_n gd_Wants_costOfRow_0 0 rfl (by decide) ?_
  refine gf_36_0 gd_Wants_costOfRow_1 gh_k366 hF ?_
  refine gf_13_6 gd_Wants_costOfRow_4 gh_k206 hF ?_
  refine gh_iload_n gd_Wants_costOfRow_7 1 rfl ?_
  obtain ⟨q1550, h⟩ := h
  obtain ⟨q1551, h⟩ := h
  refine la_17 gd_Wants_costOfRow_8 hF q1550 q1551 rfl ?_
  obtain ⟨hA, hB⟩ := h
  refine gh_zne (tgt := 16) gd_Wants_costOfRow_9 (by decide) (fun c1552 => ?_) (fun c1552 => ?_)
  · have h := hA c1552
    refine gh_iload_n gd_Wants_costOfRow_12 3 rfl ?_
    refine gh_iload_n gd_Wants_costOfRow_13 2 rfl ?_
    obtain ⟨q1553, h⟩ := h
    refine gh_isub gd_Wants_costOfRow_14 q1553 ?_
    exact gh_ret0 rfl gd_Wants_costOfRow_15 ⟨hF, h⟩
  · have h := hB c1552
    refine gh_aload_n gd_Wants_costOfRow_16 0 rfl (by decide) ?_
    refine gf_36_9 gd_Wants_costOfRow_17 gh_k375 hF ?_
    refine gh_ldc (n := 16777216) gd_Wants_costOfRow_20 gh_k999 (by decide) (gh_r0 rfl) ?_
    refine gh_fillF (d := d + 1) gd_Wants_costOfRow_22 gh_k1000 (ga_40 hF) (Nat.le_of_ble_eq_true rfl) hF gn_40 (by decide) (fun hF => ?_)
    refine gh_aload_n gd_Wants_costOfRow_25 0 rfl (by decide) ?_
    refine gf_36_9 gd_Wants_costOfRow_26 gh_k375 hF ?_
    refine gh_iload_n gd_Wants_costOfRow_29 2 rfl ?_
    refine gh_iconst gd_Wants_costOfRow_30 (gh_r0 rfl) ?_
    obtain ⟨q1554, h⟩ := h
    obtain ⟨q1555, h⟩ := h
    refine sa_40 gd_Wants_costOfRow_31 hF q1554 q1555 (fun hF => ?_)
    refine gh_iconst gd_Wants_costOfRow_32 (gh_r0 rfl) ?_
    refine gh_istore (L2 := [(4, 0, 0), (0, 2, 36), (1, 0, v1), (2, 0, v2), (3, 0, v3)]) gd_Wants_costOfRow_33 (by decide) rfl ?_
    refine gh_pick (L2 := [(0, 2, 36), (1, 0, v1), (2, 0, v2), (3, 0, v3), (4, 0, 0)]) [1, 2, 3, 4, 0] rfl ?_
    exact gh_M1_sound (T := fun v4 m => gh_T E (gh_yWants_costOfRow.cls, prog_12_method_9_code, 8, false, 0) (d + 2) 35 [(0, 2, 36), (1, 0, v1), (2, 0, v2), (3, 0, v3), (4, 0, v4)] [] m (fun r m1 => gh_F m1 ∧ Q r m1)) (fun _ m => gh_F m) (fun K35 v4 m hK hF h => b_Wants_costOfRow_35 d hK v4 m hF h) 0 (gh_u (gh_fil m 40 9 16777216) 40 v2 0) hF h
def f_Wants_findCosts_105 (v1 : Int) (v2 : Int) (v4 : Int) (K84 : Int → Int → gh_M → Prop) (K105 : Int → Int → gh_M → Prop) (v3 : Int) (v5 : Int) (m : gh_M) : Prop := ((v5 < (m 13 2) → 0 ≤ v5 ∧ v5 < 20 ∧ (gh_i ((m 16 v5) * 9) ∧ gh_i (((m 16 v5) * 9) + v2) ∧ gh_i ((((m 16 v5) * 9) + v2) * 9) ∧ gh_i (((((m 16 v5) * 9) + v2) * 9) + v1)) ∧ ∀ v6 : Int, v6 = (((((m 16 v5) * 9) + v2) * 9) + v1) → ∃ J159 : Int → gh_M → Prop, (∀ (y0 : Int) (m : gh_M), J159 y0 m → (((v3 = 0) → (0 ≤ v6 ∧ v6 < 648))) ∧ ∀ v3' : Int, v3' = (if (¬ (v3 = 0) ∨ (y0 < (m 39 v6))) then (1:Int) else 0) → 0 ≤ v6 ∧ v6 < 648 ∧ 0 ≤ v6 ∧ v6 < 648 ∧ gh_i (v5 + 1) ∧ K105 v3' (v5 + 1) (gh_u m 39 v6 (min (m 39 v6) y0))) ∧ ((p_Facts_isUsefulRule v5 m → w_Wants_costOfRow v5 v2 v1 m (fun r1608 m1609 => J159 r1608 m1609)) ∧ (¬ (p_Facts_isUsefulRule v5 m) → J159 16777216 m))) ∧ (¬ (v5 < (m 13 2)) → gh_i (v4 + 1) ∧ K84 v3 (v4 + 1) m))
def f_Wants_findCosts_84 (v1 : Int) (v2 : Int) (K43 : Int → gh_M → Prop) (K84 : Int → Int → gh_M → Prop) (v3 : Int) (v4 : Int) (m : gh_M) : Prop := ∃ J214 : gh_M → Prop, (∀ (m : gh_M), J214 m → gh_i (v2 + (-1)) ∧ K43 (v2 + (-1)) m) ∧ (((¬ (v3 = 0) ∧ (v4 < (m 13 1))) → gh_M2 (fun K105 v3 v5 m => f_Wants_findCosts_105 v1 v2 v4 K84 K105 v3 v5 m) 0 0 m) ∧ (¬ (¬ (v3 = 0) ∧ (v4 < (m 13 1))) → J214 m))
def f_Wants_findCosts_49 (v1 : Int) (v2 : Int) (K43 : Int → gh_M → Prop) (K49 : Int → gh_M → Prop) (v3 : Int) (m : gh_M) : Prop := ((v3 < (m 13 1) → (gh_i (v3 * 9) ∧ gh_i ((v3 * 9) + v2) ∧ gh_i (((v3 * 9) + v2) * 9) ∧ gh_i ((((v3 * 9) + v2) * 9) + v1)) ∧ 0 ≤ ((((v3 * 9) + v2) * 9) + v1) ∧ (((((v3 * 9) + v2) * 9) + v1)) < 648 ∧ gh_i (v3 + 1) ∧ K49 (v3 + 1) (gh_u m 39 (((((v3 * 9) + v2) * 9) + v1)) 16777216)) ∧ (¬ (v3 < (m 13 1)) → gh_M2 (fun K84 v3 v4 m => f_Wants_findCosts_84 v1 v2 K43 K84 v3 v4 m) 1 0 m))
def f_Wants_findCosts_43 (v1 : Int) (Q : Int → gh_M → Prop) (K43 : Int → gh_M → Prop) (v2 : Int) (m : gh_M) : Prop := ((v2 < 0 → Q 0 m) ∧ (¬ (v2 < 0) → gh_M1 (fun K49 v3 m => f_Wants_findCosts_49 v1 v2 K43 K49 v3 m) 0 m))
def f_Wants_findCosts_2 (v1 : Int) (Q : Int → gh_M → Prop) (K2 : Int → gh_M → Prop) (v2 : Int) (m : gh_M) : Prop := ((v2 < (m 13 1) → (gh_i (v2 * 9) ∧ gh_i ((v2 * 9) + v1) ∧ gh_i (((v2 * 9) + v1) * 9) ∧ gh_i ((((v2 * 9) + v1) * 9) + v1)) ∧ 0 ≤ v2 ∧ v2 < 8 ∧ 0 ≤ ((((v2 * 9) + v1) * 9) + v1) ∧ (((((v2 * 9) + v1) * 9) + v1)) < 648 ∧ gh_i (v2 + 1) ∧ K2 (v2 + 1) (gh_u m 39 (((((v2 * 9) + v1) * 9) + v1)) (m 21 v2))) ∧ (¬ (v2 < (m 13 1)) → gh_i (v1 - 1) ∧ ∀ v2' : Int, v2' = v1 - 1 → gh_M1 (fun K43 v2 m => f_Wants_findCosts_43 v1 Q K43 v2 m) v2' m))
def w_Wants_findCosts (v1 : Int) (m : gh_M) (Q : Int → gh_M → Prop) : Prop := gh_M1 (fun K2 v2 m => f_Wants_findCosts_2 v1 Q K2 v2 m) 0 m
theorem b_Wants_findCosts_105 {E : gh_E} {v1 : Int} {v2 : Int} {v4 : Int} {K84 : Int → Int → gh_M → Prop} {Q : Int → gh_M → Prop} {K105 : Int → Int → gh_M → Prop} (d : Nat) (hK84 : ∀ (v3 : Int) (v4 : Int) (m : gh_M), gh_F m → K84 v3 v4 m → gh_T E (gh_yWants_findCosts.cls, prog_12_method_7_code, 8, false, 9) (d + 3) 84 [(0, 2, 36), (1, 0, v1), (2, 0, v2), (3, 0, v3), (4, 0, v4)] [] m (fun r m1 => gh_F m1 ∧ Q r m1)) (hK : ∀ (v3 : Int) (v5 : Int) (m : gh_M), gh_F m → K105 v3 v5 m → gh_T E (gh_yWants_findCosts.cls, prog_12_method_7_code, 8, false, 9) (d + 3) 105 [(0, 2, 36), (1, 0, v1), (2, 0, v2), (3, 0, v3), (4, 0, v4), (5, 0, v5)] [] m (fun r m1 => gh_F m1 ∧ Q r m1)) (v3 : Int) (v5 : Int) (m : gh_M) (hF : gh_F m) (h : f_Wants_findCosts_105 v1 v2 v4 K84 K105 v3 v5 m) : gh_T E (gh_yWants_findCosts.cls, prog_12_method_7_code, 8, false, 9) (d + 3) 105 [(0, 2, 36), (1, 0, v1), (2, 0, v2), (3, 0, v3), (4, 0, v4), (5, 0, v5)] [] m (fun r m1 => gh_F m1 ∧ Q r m1) := by
  have hK105 := hK
  unfold f_Wants_findCosts_105 at h
  refine gh_iload gd_Wants_findCosts_105 5 rfl ?_
  refine gh_aload_n gd_Wants_findCosts_107 0 rfl (by decide) ?_
  refine gf_36_0 gd_Wants_findCosts_108 gh_k366 hF ?_
  refine gf_13_2 gd_Wants_findCosts_111 gh_k188 hF rfl ?_
  obtain ⟨hA, hB⟩ := h
  refine gh_jge (tgt := 208) gd_Wants_findCosts_114 (by decide) (fun c1592 => ?_) (fun c1592 => ?_)
  · have h := hA c1592
    refine gh_aload_n gd_Wants_findCosts_117 0 rfl (by decide) ?_
    refine gf_36_0 gd_Wants_findCosts_118 gh_k366 hF ?_
    refine gf_13_5 gd_Wants_findCosts_121 gh_k201 hF ?_
    refine gh_iload gd_Wants_findCosts_124 5 rfl ?_
    obtain ⟨q1593, h⟩ := h
    obtain ⟨q1594, h⟩ := h
    refine la_16 gd_Wants_findCosts_126 hF q1593 q1594 rfl ?_
    refine gh_iload_n gd_Wants_findCosts_127 2 rfl ?_
    refine gh_iload_n gd_Wants_findCosts_128 1 rfl ?_
    obtain ⟨q1595, h⟩ := h
    refine cv_Wants_costAt (d := d + 2) gd_Wants_findCosts_129 gh_k1101 (Nat.le_of_ble_eq_true rfl) (gh_C.pe (e_Wants_costAt (d + 2) (m 16 v5) v2 v1 q1595) ?_)
    refine gh_name (fun v6 hn => ?_)
    have h := h v6 hn
    refine gh_istore (L2 := [(6, 0, v6), (0, 2, 36), (1, 0, v1), (2, 0, v2), (3, 0, v3), (4, 0, v4), (5, 0, v5)]) gd_Wants_findCosts_132 (by decide) rfl ?_
    refine gh_aload_n gd_Wants_findCosts_134 1 rfl (by decide) ?_
    refine gf_36_1 gd_Wants_findCosts_135 gh_k367 hF ?_
    refine gh_iload gd_Wants_findCosts_138 6 rfl ?_
    refine cv_Facts_isUsefulRule (d := d + 2) gd_Wants_findCosts_140 gh_k1104 hF (Nat.le_of_ble_eq_true rfl) (gh_C.pe (e_Facts_isUsefulRule (d + 2) v5 hF) ?_)
    obtain ⟨J159, hJ159, h⟩ := h
    have hJ159 : ∀ (y0 : Int) (m : gh_M), gh_F m → J159 y0 m → gh_T E (gh_yWants_findCosts.cls, prog_12_method_7_code, 8, false, 9) (d + 3) 159 [(0, 2, 36), (1, 0, v1), (2, 0, v2), (3, 0, v3), (4, 0, v4), (5, 0, v5), (6, 0, v6)] [(0, y0)] m (fun r m1 => gh_F m1 ∧ Q r m1) := by
      intro y0 m hF hj
      have h := hJ159 y0 m hj
      refine gh_istore (L2 := [(7, 0, y0), (0, 2, 36), (1, 0, v1), (2, 0, v2), (3, 0, v3), (4, 0, v4), (5, 0, v5), (6, 0, v6)]) gd_Wants_findCosts_159 (by decide) rfl ?_
      refine gh_iload_n gd_Wants_findCosts_161 4 rfl ?_
      obtain ⟨hk, h⟩ := h
      have k1598 : ∀ x1599 : Int, x1599 = (if (¬ (v3 = 0) ∨ (y0 < (m 39 v6))) then (1:Int) else 0) → gh_T E (gh_yWants_findCosts.cls, prog_12_method_7_code, 8, false, 9) (d + 3) 182 [(7, 0, y0), (0, 2, 36), (1, 0, v1), (2, 0, v2), (3, 0, v3), (4, 0, v4), (5, 0, v5), (6, 0, v6)] [(0, x1599)] m (fun r m1 => gh_F m1 ∧ Q r m1) := by
        rintro _ rfl
        refine gh_name (fun v3' hn => ?_)
        have h := h v3' hn
        refine gh_istore_n (L2 := [(3, 0, v3'), (7, 0, y0), (0, 2, 36), (1, 0, v1), (2, 0, v2), (4, 0, v4), (5, 0, v5), (6, 0, v6)]) gd_Wants_findCosts_182 (by decide) rfl ?_
        refine gh_aload_n gd_Wants_findCosts_183 2 rfl (by decide) ?_
        refine gf_36_8 gd_Wants_findCosts_184 gh_k374 hF ?_
        refine gh_iload gd_Wants_findCosts_187 7 rfl ?_
        refine gh_aload_n gd_Wants_findCosts_189 2 rfl (by decide) ?_
        refine gf_36_8 gd_Wants_findCosts_190 gh_k374 hF ?_
        refine gh_iload gd_Wants_findCosts_193 7 rfl ?_
        obtain ⟨q1600, h⟩ := h
        obtain ⟨q1601, h⟩ := h
        refine la_39 gd_Wants_findCosts_195 hF q1600 q1601 rfl ?_
        refine gh_iload gd_Wants_findCosts_196 1 rfl ?_
        refine gh_pr_min gd_Wants_findCosts_198 gh_k831 (Nat.le_of_ble_eq_true rfl) ?_
        obtain ⟨q1602, h⟩ := h
        obtain ⟨q1603, h⟩ := h
        refine sa_39 gd_Wants_findCosts_201 hF q1602 q1603 (fun hF => ?_)
        obtain ⟨q1604, h⟩ := h
        refine gh_iinc (L2 := [(5, 0, v5 + 1), (3, 0, v3'), (7, 0, y0), (0, 2, 36), (1, 0, v1), (2, 0, v2), (4, 0, v4), (6, 0, v6)]) gd_Wants_findCosts_202 6 rfl q1604 (by decide) rfl ?_
        refine gh_goto (tgt := 105) gd_Wants_findCosts_205 (by decide) ?_
        refine gh_pick (L2 := [(0, 2, 36), (1, 0, v1), (2, 0, v2), (3, 0, v3'), (4, 0, v4), (5, 0, v5 + 1)]) [3, 4, 5, 1, 6, 0] rfl ?_
        exact hK105 v3' (v5 + 1) (gh_u m 39 v6 (min (m 39 v6) y0)) hF h
      refine gh_zne (tgt := 177) gd_Wants_findCosts_162 (by decide) (fun c1605 => ?_) (fun c1605 => ?_)
      · have hz : True := trivial
        have hk := hk c1605
        refine gh_iload gd_Wants_findCosts_165 0 rfl ?_
        refine gh_aload_n gd_Wants_findCosts_167 1 rfl (by decide) ?_
        refine gf_36_8 gd_Wants_findCosts_168 gh_k374 hF ?_
        refine gh_iload gd_Wants_findCosts_171 7 rfl ?_
        obtain ⟨q1596, hk⟩ := hk
        have q1597 := hk
        refine la_39 gd_Wants_findCosts_173 hF q1596 q1597 rfl ?_
        refine gh_jge (tgt := 181) gd_Wants_findCosts_174 (by decide) (fun c1606 => ?_) (fun c1606 => ?_)
        · have hz : True := trivial
          refine gh_iconst gd_Wants_findCosts_177 (gh_r0 rfl) ?_
          refine gh_goto (tgt := 182) gd_Wants_findCosts_178 (by decide) ?_
          exact k1598 _ (if_pos (c := (¬ (v3 = 0) ∨ (y0 < (m 39 v6)))) (Or.inr c1606)).symm
        · have hz : True := trivial
          refine gh_iconst gd_Wants_findCosts_181 (gh_r0 rfl) ?_
          exact k1598 _ (if_neg (c := (¬ (v3 = 0) ∨ (y0 < (m 39 v6)))) (fun z => z.elim (fun w => w c1605) c1606)).symm
      · have hz : True := trivial
        refine gh_iconst gd_Wants_findCosts_177 (gh_r0 rfl) ?_
        refine gh_goto (tgt := 182) gd_Wants_findCosts_178 (by decide) ?_
        exact k1598 _ (if_pos (c := (¬ (v3 = 0) ∨ (y0 < (m 39 v6)))) (Or.inl c1605)).symm
    obtain ⟨hA, hB⟩ := h
    refine gh_beq (tgt := 157) gd_Wants_findCosts_143 (by decide) (fun c1607 => ?_) (fun c1607 => ?_)
    · have h := hA c1607
      refine gh_aload_n gd_Wants_findCosts_146 1 rfl (by decide) ?_
      refine gh_iload gd_Wants_findCosts_147 6 rfl ?_
      refine gh_iload_n gd_Wants_findCosts_149 3 rfl ?_
      refine gh_iload_n gd_Wants_findCosts_150 2 rfl ?_
      refine cv_Wants_costOfRow (d := d + 2) gd_Wants_findCosts_151 gh_k1105 hF (Nat.le_of_ble_eq_true rfl) (gh_C.mono (s_Wants_costOfRow d v5 v2 v1 hF h) (fun r1608 m1609 hq => ?_))
      obtain ⟨hF, h⟩ := hq
      refine gh_goto (tgt := 159) gd_Wants_findCosts_154 (by decide) ?_
      refine gh_pick (L2 := [(0, 2, 36), (1, 0, v1), (2, 0, v2), (3, 0, v3), (4, 0, v4), (5, 0, v5), (6, 0, v6)]) [1, 2, 3, 4, 5, 6, 0] rfl ?_
      exact hJ159 r1608 m1609 hF h
    · have h := hB c1607
      refine gh_ldc (n := 16777216) gd_Wants_findCosts_157 gh_k999 (by decide) (gh_r0 rfl) ?_
      refine gh_pick (L2 := [(0, 2, 36), (1, 0, v1), (2, 0, v2), (3, 0, v3), (4, 0, v4), (5, 0, v5), (6, 0, v6)]) [1, 2, 3, 4, 5, 6, 0] rfl ?_
      exact hJ159 16777216 m hF h
  · have h := hB c1592
    obtain ⟨q1610, h⟩ := h
    refine gh_iinc (L2 := [(4, 0, v4 + 1), (0, 2, 36), (1, 0, v1), (2, 0, v2), (3, 0, v3), (5, 0, v5)]) gd_Wants_findCosts_208 4 rfl q1610 (by decide) rfl ?_
    refine gh_goto (tgt := 84) gd_Wants_findCosts_211 (by decide) ?_
    refine gh_pick (L2 := [(0, 2, 36), (1, 0, v1), (2, 0, v2), (3, 0, v3), (4, 0, v4 + 1)]) [1, 2, 3, 4, 0] rfl ?_
    exact hK84 v3 (v4 + 1) m hF h
theorem b_Wants_findCosts_84 {E : gh_E} {v1 : Int} {v2 : Int} {K43 : Int → gh_M → Prop} {Q : Int → gh_M → Prop} {K84 : Int → Int → gh_M → Prop} (d : Nat) (hK43 : ∀ (v2 : Int) (m : gh_M), gh_F m → K43 v2 m → gh_T E (gh_yWants_findCosts.cls, prog_12_method_7_code, 8, false, 9) (d + 3) 43 [(0, 2, 36), (1, 0, v1), (2, 0, v2)] [] m (fun r m1 => gh_F m1 ∧ Q r m1)) (hK : ∀ (v3 : Int) (v4 : Int) (m : gh_M), gh_F m → K84 v3 v4 m → gh_T E (gh_yWants_findCosts.cls, prog_12_method_7_code, 8, false, 9) (d + 3) 84 [(0, 2, 36), (1, 0, v1), (2, 0, v2), (3, 0, v3), (4, 0, v4)] [] m (fun r m1 => gh_F m1 ∧ Q r m1)) (v3 : Int) (v4 : Int) (m : gh_M) (hF : gh_F m) (h : f_Wants_findCosts_84 v1 v2 K43 K84 v3 v4 m) : gh_T E (gh_yWants_findCosts.cls, prog_12_method_7_code, 8, false, 9) (d + 3) 84 [(0, 2, 36), (1, 0, v1), (2, 0, v2), (3, 0, v3), (4, 0, v4)] [] m (fun r m1 => gh_F m1 ∧ Q r m1) := by
  have hK84 := hK
  unfold f_Wants_findCosts_84 at h
  refine gh_iload_n gd_Wants_findCosts_84 3 rfl ?_
  obtain ⟨J214, hJ214, h⟩ := h
  have hJ214 : ∀ (m : gh_M), gh_F m → J214 m → gh_T E (gh_yWants_findCosts.cls, prog_12_method_7_code, 8, false, 9) (d + 3) 214 [(0, 2, 36), (1, 0, v1), (2, 0, v2)] [] m (fun r m1 => gh_F m1 ∧ Q r m1) := by
    intro m hF hj
    have h := hJ214 m hj
    obtain ⟨q1589, h⟩ := h
    refine gh_iinc (L2 := [(2, 0, v2 + (-1)), (0, 2, 36), (1, 0, v1)]) gd_Wants_findCosts_214 2 rfl q1589 (by decide) rfl ?_
    refine gh_goto (tgt := 43) gd_Wants_findCosts_217 (by decide) ?_
    refine gh_pick (L2 := [(0, 2, 36), (1, 0, v1), (2, 0, v2 + (-1))]) [1, 2, 0] rfl ?_
    exact hK43 (v2 + (-1)) m hF h
  obtain ⟨hA, hB⟩ := h
  have k1590 : (¬ (v3 = 0) ∧ (v4 < (m 13 1))) → gh_T E (gh_yWants_findCosts.cls, prog_12_method_7_code, 8, false, 9) (d + 3) 100 [(0, 2, 36), (1, 0, v1), (2, 0, v2), (3, 0, v3), (4, 0, v4)] [] m (fun r m1 => gh_F m1 ∧ Q r m1) := by
    intro c
    have h := hA c
    refine gh_iconst gd_Wants_findCosts_100 (gh_r0 rfl) ?_
    refine gh_istore_n (L2 := [(3, 0, 0), (0, 2, 36), (1, 0, v1), (2, 0, v2), (4, 0, v4)]) gd_Wants_findCosts_101 (by decide) rfl ?_
    refine gh_iconst gd_Wants_findCosts_102 (gh_r0 rfl) ?_
    refine gh_istore (L2 := [(5, 0, 0), (3, 0, 0), (0, 2, 36), (1, 0, v1), (2, 0, v2), (4, 0, v4)]) gd_Wants_findCosts_103 (by decide) rfl ?_
    refine gh_pick (L2 := [(0, 2, 36), (1, 0, v1), (2, 0, v2), (3, 0, 0), (4, 0, v4), (5, 0, 0)]) [2, 3, 4, 1, 5, 0] rfl ?_
    exact gh_M2_sound (T := fun v3 v5 m => gh_T E (gh_yWants_findCosts.cls, prog_12_method_7_code, 8, false, 9) (d + 3) 105 [(0, 2, 36), (1, 0, v1), (2, 0, v2), (3, 0, v3), (4, 0, v4), (5, 0, v5)] [] m (fun r m1 => gh_F m1 ∧ Q r m1)) (fun _ _ m => gh_F m) (fun K105 v3 v5 m hK hF h => b_Wants_findCosts_105 d hK84 hK v3 v5 m hF h) 0 0 m hF h
  have k1591 : ¬ (¬ (v3 = 0) ∧ (v4 < (m 13 1))) → gh_T E (gh_yWants_findCosts.cls, prog_12_method_7_code, 8, false, 9) (d + 3) 214 [(0, 2, 36), (1, 0, v1), (2, 0, v2), (3, 0, v3), (4, 0, v4)] [] m (fun r m1 => gh_F m1 ∧ Q r m1) := by
    intro c
    have h := hB c
    refine gh_pick (L2 := [(0, 2, 36), (1, 0, v1), (2, 0, v2)]) [0, 1, 2] rfl ?_
    exact hJ214 m hF h
  refine gh_zeq (tgt := 214) gd_Wants_findCosts_85 (by decide) (fun c1611 => ?_) (fun c1611 => ?_)
  · have hz : True := trivial
    exact k1591 (fun z => z.1 c1611)
  · have hz : True := trivial
    refine gh_iload gd_Wants_findCosts_88 4 rfl ?_
    refine gh_aload_n gd_Wants_findCosts_90 0 rfl (by decide) ?_
    refine gf_36_0 gd_Wants_findCosts_91 gh_k366 hF ?_
    refine gf_13_1 gd_Wants_findCosts_94 gh_k183 hF rfl ?_
    refine gh_jge (tgt := 214) gd_Wants_findCosts_97 (by decide) (fun c1612 => ?_) (fun c1612 => ?_)
    · have hz : True := trivial
      exact k1590 ⟨c1611, c1612⟩
    · have hz : True := trivial
      exact k1591 (fun z => c1612 z.2)
theorem b_Wants_findCosts_49 {E : gh_E} {v1 : Int} {v2 : Int} {K43 : Int → gh_M → Prop} {Q : Int → gh_M → Prop} {K49 : Int → gh_M → Prop} (d : Nat) (hK43 : ∀ (v2 : Int) (m : gh_M), gh_F m → K43 v2 m → gh_T E (gh_yWants_findCosts.cls, prog_12_method_7_code, 8, false, 9) (d + 3) 43 [(0, 2, 36), (1, 0, v1), (2, 0, v2)] [] m (fun r m1 => gh_F m1 ∧ Q r m1)) (hK : ∀ (v3 : Int) (m : gh_M), gh_F m → K49 v3 m → gh_T E (gh_yWants_findCosts.cls, prog_12_method_7_code, 8, false, 9) (d + 3) 49 [(0, 2, 36), (1, 0, v1), (2, 0, v2), (3, 0, v3)] [] m (fun r m1 => gh_F m1 ∧ Q r m1)) (v3 : Int) (m : gh_M) (hF : gh_F m) (h : f_Wants_findCosts_49 v1 v2 K43 K49 v3 m) : gh_T E (gh_yWants_findCosts.cls, prog_12_method_7_code, 8, false, 9) (d + 3) 49 [(0, 2, 36), (1, 0, v1), (2, 0, v2), (3, 0, v3)] [] m (fun r m1 => gh_F m1 ∧ Q r m1) := by
  have hK49 := hK
  unfold f_Wants_findCosts_49 at h
  refine gh_iload_n gd_Wants_findCosts_49 3 rfl ?_
  refine gh_aload_n gd_Wants_findCosts_50 0 rfl (by decide) ?_
  refine gf_36_0 gd_Wants_findCosts_51 gh_k366 hF ?_
  refine gf_13_1 gd_Wants_findCosts_54 gh_k183 hF rfl ?_
  obtain ⟨hA, hB⟩ := h
  refine gh_jge (tgt := 79) gd_Wants_findCosts_57 (by decide) (fun c1584 => ?_) (fun c1584 => ?_)
  · have h := hA c1584
    refine gh_aload_n gd_Wants_findCosts_60 0 rfl (by decide) ?_
    refine gf_36_8 gd_Wants_findCosts_61 gh_k374 hF ?_
    refine gh_iload_n gd_Wants_findCosts_64 3 rfl ?_
    refine gh_iload_n gd_Wants_findCosts_65 2 rfl ?_
    refine gh_iload_n gd_Wants_findCosts_66 1 rfl ?_
    obtain ⟨q1585, h⟩ := h
    refine cv_Wants_costAt (d := d + 2) gd_Wants_findCosts_67 gh_k1101 (Nat.le_of_ble_eq_true rfl) (gh_C.pe (e_Wants_costAt (d + 2) v3 v2 v1 q1585) ?_)
    refine gh_ldc (n := 16777216) gd_Wants_findCosts_70 gh_k999 (by decide) (gh_r0 rfl) ?_
    obtain ⟨q1586, h⟩ := h
    obtain ⟨q1587, h⟩ := h
    refine sa_39 gd_Wants_findCosts_72 hF q1586 q1587 (fun hF => ?_)
    obtain ⟨q1588, h⟩ := h
    refine gh_iinc (L2 := [(3, 0, v3 + 1), (0, 2, 36), (1, 0, v1), (2, 0, v2)]) gd_Wants_findCosts_73 3 rfl q1588 (by decide) rfl ?_
    refine gh_goto (tgt := 49) gd_Wants_findCosts_76 (by decide) ?_
    refine gh_pick (L2 := [(0, 2, 36), (1, 0, v1), (2, 0, v2), (3, 0, v3 + 1)]) [1, 2, 3, 0] rfl ?_
    exact hK49 (v3 + 1) (gh_u m 39 (((((v3 * 9) + v2) * 9) + v1)) 16777216) hF h
  · have h := hB c1584
    refine gh_iconst gd_Wants_findCosts_79 (gh_r0 rfl) ?_
    refine gh_istore_n (L2 := [(3, 0, 1), (0, 2, 36), (1, 0, v1), (2, 0, v2)]) gd_Wants_findCosts_80 (by decide) rfl ?_
    refine gh_iconst gd_Wants_findCosts_81 (gh_r0 rfl) ?_
    refine gh_istore (L2 := [(4, 0, 0), (3, 0, 1), (0, 2, 36), (1, 0, v1), (2, 0, v2)]) gd_Wants_findCosts_82 (by decide) rfl ?_
    refine gh_pick (L2 := [(0, 2, 36), (1, 0, v1), (2, 0, v2), (3, 0, 1), (4, 0, 0)]) [2, 3, 4, 1, 0] rfl ?_
    exact gh_M2_sound (T := fun v3 v4 m => gh_T E (gh_yWants_findCosts.cls, prog_12_method_7_code, 8, false, 9) (d + 3) 84 [(0, 2, 36), (1, 0, v1), (2, 0, v2), (3, 0, v3), (4, 0, v4)] [] m (fun r m1 => gh_F m1 ∧ Q r m1)) (fun _ _ m => gh_F m) (fun K84 v3 v4 m hK hF h => b_Wants_findCosts_84 d hK43 hK v3 v4 m hF h) 1 0 m hF h
theorem b_Wants_findCosts_43 {E : gh_E} {v1 : Int} {Q : Int → gh_M → Prop} {K43 : Int → gh_M → Prop} (d : Nat) (hK : ∀ (v2 : Int) (m : gh_M), gh_F m → K43 v2 m → gh_T E (gh_yWants_findCosts.cls, prog_12_method_7_code, 8, false, 9) (d + 3) 43 [(0, 2, 36), (1, 0, v1), (2, 0, v2)] [] m (fun r m1 => gh_F m1 ∧ Q r m1)) (v2 : Int) (m : gh_M) (hF : gh_F m) (h : f_Wants_findCosts_43 v1 Q K43 v2 m) : gh_T E (gh_yWants_findCosts.cls, prog_12_method_7_code, 8, false, 9) (d + 3) 43 [(0, 2, 36), (1, 0, v1), (2, 0, v2)] [] m (fun r m1 => gh_F m1 ∧ Q r m1) := by
  have hK43 := hK
  unfold f_Wants_findCosts_43 at h
  refine gh_iload_n gd_Wants_findCosts_43 2 rfl ?_
  obtain ⟨hA, hB⟩ := h
  refine gh_zlt (tgt := 220) gd_Wants_findCosts_44 (by decide) (fun c1583 => ?_) (fun c1583 => ?_)
  · have h := hA c1583
    exact gh_ret9 rfl gd_Wants_findCosts_220 ⟨hF, h⟩
  · have h := hB c1583
    refine gh_iconst gd_Wants_findCosts_47 (gh_r0 rfl) ?_
    refine gh_istore_n (L2 := [(3, 0, 0), (0, 2, 36), (1, 0, v1), (2, 0, v2)]) gd_Wants_findCosts_48 (by decide) rfl ?_
    refine gh_pick (L2 := [(0, 2, 36), (1, 0, v1), (2, 0, v2), (3, 0, 0)]) [1, 2, 3, 0] rfl ?_
    exact gh_M1_sound (T := fun v3 m => gh_T E (gh_yWants_findCosts.cls, prog_12_method_7_code, 8, false, 9) (d + 3) 49 [(0, 2, 36), (1, 0, v1), (2, 0, v2), (3, 0, v3)] [] m (fun r m1 => gh_F m1 ∧ Q r m1)) (fun _ m => gh_F m) (fun K49 v3 m hK hF h => b_Wants_findCosts_49 d hK43 hK v3 m hF h) 0 m hF h
theorem b_Wants_findCosts_2 {E : gh_E} {v1 : Int} {Q : Int → gh_M → Prop} {K2 : Int → gh_M → Prop} (d : Nat) (hK : ∀ (v2 : Int) (m : gh_M), gh_F m → K2 v2 m → gh_T E (gh_yWants_findCosts.cls, prog_12_method_7_code, 8, false, 9) (d + 3) 2 [(0, 2, 36), (1, 0, v1), (2, 0, v2)] [] m (fun r m1 => gh_F m1 ∧ Q r m1)) (v2 : Int) (m : gh_M) (hF : gh_F m) (h : f_Wants_findCosts_2 v1 Q K2 v2 m) : gh_T E (gh_yWants_findCosts.cls, prog_12_method_7_code, 8, false, 9) (d + 3) 2 [(0, 2, 36), (1, 0, v1), (2, 0, v2)] [] m (fun r m1 => gh_F m1 ∧ Q r m1) := by
  have hK2 := hK
  unfold f_Wants_findCosts_2 at h
  refine gh_iload_n gd_Wants_findCosts_2 2 rfl ?_
  refine gh_aload_n gd_Wants_findCosts_3 0 rfl (by decide) ?_
  refine gf_36_0 gd_Wants_findCosts_4 gh_k366 hF ?_
  refine gf_13_1 gd_Wants_findCosts_7 gh_k183 hF rfl ?_
  obtain ⟨hA, hB⟩ := h
  refine gh_jge (tgt := 39) gd_Wants_findCosts_10 (by decide) (fun c1575 => ?_) (fun c1575 => ?_)
  · have h := hA c1575
    refine gh_aload_n gd_Wants_findCosts_13 0 rfl (by decide) ?_
    refine gf_36_8 gd_Wants_findCosts_14 gh_k374 hF ?_
    refine gh_iload_n gd_Wants_findCosts_17 2 rfl ?_
    refine gh_iload_n gd_Wants_findCosts_18 1 rfl ?_
    refine gh_iload_n gd_Wants_findCosts_19 1 rfl ?_
    obtain ⟨q1576, h⟩ := h
    refine cv_Wants_costAt (d := d + 2) gd_Wants_findCosts_20 gh_k1101 (Nat.le_of_ble_eq_true rfl) (gh_C.pe (e_Wants_costAt (d + 2) v2 v1 v1 q1576) ?_)
    refine gh_aload_n gd_Wants_findCosts_23 0 rfl (by decide) ?_
    refine gf_36_1 gd_Wants_findCosts_24 gh_k367 hF ?_
    refine gf_20_6 gd_Wants_findCosts_27 gh_k253 hF ?_
    refine gh_iload_n gd_Wants_findCosts_30 2 rfl ?_
    obtain ⟨q1577, h⟩ := h
    obtain ⟨q1578, h⟩ := h
    refine la_21 gd_Wants_findCosts_31 hF q1577 q1578 rfl ?_
    obtain ⟨q1579, h⟩ := h
    obtain ⟨q1580, h⟩ := h
    refine sa_39 gd_Wants_findCosts_32 hF q1579 q1580 (fun hF => ?_)
    obtain ⟨q1581, h⟩ := h
    refine gh_iinc (L2 := [(2, 0, v2 + 1), (0, 2, 36), (1, 0, v1)]) gd_Wants_findCosts_33 2 rfl q1581 (by decide) rfl ?_
    refine gh_goto (tgt := 2) gd_Wants_findCosts_36 (by decide) ?_
    refine gh_pick (L2 := [(0, 2, 36), (1, 0, v1), (2, 0, v2 + 1)]) [1, 2, 0] rfl ?_
    exact hK2 (v2 + 1) (gh_u m 39 (((((v2 * 9) + v1) * 9) + v1)) (m 21 v2)) hF h
  · have h := hB c1575
    refine gh_iload_n gd_Wants_findCosts_39 1 rfl ?_
    refine gh_iconst gd_Wants_findCosts_40 (gh_r0 rfl) ?_
    obtain ⟨q1582, h⟩ := h
    refine gh_isub gd_Wants_findCosts_41 q1582 ?_
    refine gh_name (fun v2' hn => ?_)
    have h := h v2' hn
    refine gh_istore_n (L2 := [(2, 0, v2'), (0, 2, 36), (1, 0, v1)]) gd_Wants_findCosts_42 (by decide) rfl ?_
    refine gh_pick (L2 := [(0, 2, 36), (1, 0, v1), (2, 0, v2')]) [1, 2, 0] rfl ?_
    exact gh_M1_sound (T := fun v2 m => gh_T E (gh_yWants_findCosts.cls, prog_12_method_7_code, 8, false, 9) (d + 3) 43 [(0, 2, 36), (1, 0, v1), (2, 0, v2)] [] m (fun r m1 => gh_F m1 ∧ Q r m1)) (fun _ m => gh_F m) (fun K43 v2 m hK hF h => b_Wants_findCosts_43 d hK v2 m hF h) v2' m hF h
theorem s_Wants_findCosts {E : gh_E} {m : gh_M} {Q : Int → gh_M → Prop} (d : Nat) (v1 : Int) (hF : gh_F m) (h : w_Wants_findCosts v1 m Q) : gh_C E gh_yWants_findCosts prog_12_method_7_code 8 none 9 (d + 3) [(2, 36), (0, v1)] m (fun r m1 => gh_F m1 ∧ Q r m1) := by
  refine gh_enter2 (L := [(0, 2, 36), (1, 0, v1)]) (by decide +kernel) gh_rt9 (Nat.le_of_ble_eq_true rfl) rfl rfl ?_
  unfold w_Wants_findCosts at h
  refine gh_iconst gd_Wants_findCosts_0 (gh_r0 rfl) ?_
  refine gh_istore_n (L2 := [(2, 0, 0), (0, 2, 36), (1, 0, v1)]) gd_Wants_findCosts_1 (by decide) rfl ?_
  refine gh_pick (L2 := [(0, 2, 36), (1, 0, v1), (2, 0, 0)]) [1, 2, 0] rfl ?_
  exact gh_M1_sound (T := fun v2 m => gh_T E (gh_yWants_findCosts.cls, prog_12_method_7_code, 8, false, 9) (d + 3) 2 [(0, 2, 36), (1, 0, v1), (2, 0, v2)] [] m (fun r m1 => gh_F m1 ∧ Q r m1)) (fun _ m => gh_F m) (fun K2 v2 m hK hF h => b_Wants_findCosts_2 d hK v2 m hF h) 0 m hF h
