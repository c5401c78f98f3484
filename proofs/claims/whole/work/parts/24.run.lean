def f_Model_repair_111 (K103 : Int → gh_M → Prop) (K111 : Int → Int → gh_M → Prop) (v1 : Int) (v2 : Int) (m : gh_M) : Prop := ((v2 < (m 63 27) → w_Model_betters v2 m (fun r4074 m4075 => ∀ v1' : Int, v1' = (if (¬ (r4074 = 0) ∨ (¬ (v1 = 0))) then (1:Int) else 0) → gh_i (v2 + 1) ∧ K111 v1' (v2 + 1) m4075)) ∧ (¬ (v2 < (m 63 27)) → K103 v1 m))
def f_Model_repair_103 (Q : Int → gh_M → Prop) (K103 : Int → gh_M → Prop) (v1 : Int) (m : gh_M) : Prop := ((v1 = 0 → 0 ≤ m 63 50 ∧ (m 63 50) < 648 ∧ ((((m 102 (m 63 50)) < 1000000000) → (0 ≤ m 63 50 ∧ (m 63 50) < 648))) ∧ Q (if (m 102 (m 63 50)) < 1000000000 then (m 102 (m 63 50)) else (-1)) m) ∧ (¬ (v1 = 0) → gh_M2 (fun K111 v1 v2 m => f_Model_repair_111 K103 K111 v1 v2 m) 0 0 m))
def f_Model_repair_37 (Q : Int → gh_M → Prop) (K37 : Int → gh_M → Prop) (v1 : Int) (m : gh_M) : Prop := ((v1 < 8100 → 0 ≤ v1 ∧ 0 ≤ v1 % 81 ∧ ∀ v2 : Int, v2 = (v1 % 81) / 9 → 0 ≤ v1 ∧ ∀ v3 : Int, v3 = v1 % 9 → 0 ≤ v1 ∧ ((((v1 % 405) < 81) → (((v2 ≤ v3) → (((v3 ≤ (m 63 50)) → (gh_i (v3 - v2)))))))) ∧ 0 ≤ v1 ∧ v1 < 8100 ∧ gh_i (v1 + 1) ∧ K37 (v1 + 1) (gh_u m 103 v1 (if (v1 % 405) < 81 then (if v2 ≤ v3 then (if v3 ≤ (m 63 50) then (v3 - v2) else 1000000000) else 1000000000) else 1000000000))) ∧ (¬ (v1 < 8100) → gh_M1 (fun K103 v1 m => f_Model_repair_103 Q K103 v1 m) 1 m))
def f_Model_repair_13 (Q : Int → gh_M → Prop) (K13 : Int → gh_M → Prop) (v1 : Int) (m : gh_M) : Prop := ((v1 < 648 → 0 ≤ v1 ∧ v1 < 648 ∧ gh_i (v1 + 1) ∧ K13 (v1 + 1) (gh_u m 102 v1 1000000000)) ∧ (¬ (v1 < 648) → gh_M1 (fun K37 v1 m => f_Model_repair_37 Q K37 v1 m) 0 m))
def w_Model_repair (m : gh_M) (Q : Int → gh_M → Prop) : Prop := (((m 63 24) = 0 → Q (-1003) m) ∧ (¬ ((m 63 24) = 0) → gh_M1 (fun K13 v1 m => f_Model_repair_13 Q K13 v1 m) 0 m))
theorem b_Model_repair_111 {E : gh_E} {K103 : Int → gh_M → Prop} {Q : Int → gh_M → Prop} {K111 : Int → Int → gh_M → Prop} (d : Nat) (hK103 : ∀ (v1 : Int) (m : gh_M), gh_F m → K103 v1 m → gh_T E (gh_yModel_repair.cls, prog_14_method_87_code, 4, false, 0) (d + 2) 103 [(0, 2, 63), (1, 0, v1)] [] m (fun r m1 => gh_F m1 ∧ Q r m1)) (hK : ∀ (v1 : Int) (v2 : Int) (m : gh_M), gh_F m → K111 v1 v2 m → gh_T E (gh_yModel_repair.cls, prog_14_method_87_code, 4, false, 0) (d + 2) 111 [(0, 2, 63), (1, 0, v1), (2, 0, v2)] [] m (fun r m1 => gh_F m1 ∧ Q r m1)) (v1 : Int) (v2 : Int) (m : gh_M) (hF : gh_F m) (h : f_Model_repair_111 K103 K111 v1 v2 m) : gh_T E (gh_yModel_repair.cls, prog_14_method_87_code, 4, false, 0) (d + 2) 111 [(0, 2, 63), (1, 0, v1), (2, 0, v2)] [] m (fun r m1 => gh_F m1 ∧ Q r m1) := by
  have hK111 := hK
  unfold f_Model_repair_111 at h
  refine gh_iload_n gd_Model_repair_111 2 rfl ?_
  refine gh_aload_n gd_Model_repair_112 0 rfl (by decide) ?_
  refine gf_63_27 gd_Model_repair_113 gh_k1394 hF rfl ?_
  obtain ⟨hA, hB⟩ := h
  refine gh_jge (tgt := 143) gd_Model_repair_116 (by decide) (fun c4073 => ?_) (fun c4073 => ?_)
  · have h := hA c4073
    refine gh_aload_n gd_Model_repair_119 0 rfl (by decide) ?_
    refine gh_iload_n gd_Model_repair_120 2 rfl ?_
    refine cv_Model_betters (d := d + 1) gd_Model_repair_121 gh_k1954 hF (Nat.le_of_ble_eq_true rfl) (gh_C.mono (s_Model_betters d v2 hF h) (fun r4074 m4075 hq => ?_))
    obtain ⟨hF, h⟩ := hq
    have k4076 : ∀ x4077 : Int, x4077 = (if (¬ (r4074 = 0) ∨ (¬ (v1 = 0))) then (1:Int) else 0) → gh_T E (gh_yModel_repair.cls, prog_14_method_87_code, 4, false, 0) (d + 2) 136 [(0, 2, 63), (1, 0, v1), (2, 0, v2)] [(0, x4077)] m4075 (fun r m1 => gh_F m1 ∧ Q r m1) := by
      rintro _ rfl
      refine gh_name (fun v1' hn => ?_)
      have h := h v1' hn
      refine gh_istore_n (L2 := [(1, 0, v1'), (0, 2, 63), (2, 0, v2)]) gd_Model_repair_136 (by decide) rfl ?_
      obtain ⟨q4078, h⟩ := h
      refine gh_iinc (L2 := [(2, 0, v2 + 1), (1, 0, v1'), (0, 2, 63)]) gd_Model_repair_137 2 rfl q4078 (by decide) rfl ?_
      refine gh_goto (tgt := 111) gd_Model_repair_140 (by decide) ?_
      refine gh_pick (L2 := [(0, 2, 63), (1, 0, v1'), (2, 0, v2 + 1)]) [2, 1, 0] rfl ?_
      exact hK111 v1' (v2 + 1) m4075 hF h
    refine gh_zne (tgt := 131) gd_Model_repair_124 (by decide) (fun c4079 => ?_) (fun c4079 => ?_)
    · have hz : True := trivial
      refine gh_iload_n gd_Model_repair_127 1 rfl ?_
      refine gh_zeq (tgt := 135) gd_Model_repair_128 (by decide) (fun c4080 => ?_) (fun c4080 => ?_)
      · have hz : True := trivial
        refine gh_iconst gd_Model_repair_135 (gh_r0 rfl) ?_
        exact k4076 _ (if_neg (c := (¬ (r4074 = 0) ∨ (¬ (v1 = 0)))) (fun z => z.elim (fun w => w c4079) (not_not_intro c4080))).symm
      · have hz : True := trivial
        refine gh_iconst gd_Model_repair_131 (gh_r0 rfl) ?_
        refine gh_goto (tgt := 136) gd_Model_repair_132 (by decide) ?_
        exact k4076 _ (if_pos (c := (¬ (r4074 = 0) ∨ (¬ (v1 = 0)))) (Or.inr c4080)).symm
    · have hz : True := trivial
      refine gh_iconst gd_Model_repair_131 (gh_r0 rfl) ?_
      refine gh_goto (tgt := 136) gd_Model_repair_132 (by decide) ?_
      exact k4076 _ (if_pos (c := (¬ (r4074 = 0) ∨ (¬ (v1 = 0)))) (Or.inl c4079)).symm
  · have h := hB c4073
    refine gh_goto (tgt := 103) gd_Model_repair_143 (by decide) ?_
    refine gh_pick (L2 := [(0, 2, 63), (1, 0, v1)]) [0, 1] rfl ?_
    exact hK103 v1 m hF h
theorem b_Model_repair_103 {E : gh_E} {Q : Int → gh_M → Prop} {K103 : Int → gh_M → Prop} (d : Nat) (hK : ∀ (v1 : Int) (m : gh_M), gh_F m → K103 v1 m → gh_T E (gh_yModel_repair.cls, prog_14_method_87_code, 4, false, 0) (d + 2) 103 [(0, 2, 63), (1, 0, v1)] [] m (fun r m1 => gh_F m1 ∧ Q r m1)) (v1 : Int) (m : gh_M) (hF : gh_F m) (h : f_Model_repair_103 Q K103 v1 m) : gh_T E (gh_yModel_repair.cls, prog_14_method_87_code, 4, false, 0) (d + 2) 103 [(0, 2, 63), (1, 0, v1)] [] m (fun r m1 => gh_F m1 ∧ Q r m1) := by
  have hK103 := hK
  unfold f_Model_repair_103 at h
  refine gh_iload_n gd_Model_repair_103 1 rfl ?_
  obtain ⟨hA, hB⟩ := h
  refine gh_zeq (tgt := 146) gd_Model_repair_104 (by decide) (fun c4065 => ?_) (fun c4065 => ?_)
  · have h := hA c4065
    refine gh_aload_n gd_Model_repair_146 0 rfl (by decide) ?_
    refine gf_63_58 gd_Model_repair_147 gh_k1425 hF ?_
    refine gh_aload_n gd_Model_repair_150 0 rfl (by decide) ?_
    refine gf_63_50 gd_Model_repair_151 gh_k1417 hF rfl ?_
    obtain ⟨q4066, h⟩ := h
    obtain ⟨q4067, h⟩ := h
    refine la_102 gd_Model_repair_154 hF q4066 q4067 rfl ?_
    refine gh_ldcw (n := 1000000000) gd_Model_repair_155 gh_k1741 (by decide) (gh_r0 rfl) ?_
    obtain ⟨hk, h⟩ := h
    have k4070 : ∀ x4071 : Int, x4071 = (if (m 102 (m 63 50)) < 1000000000 then (m 102 (m 63 50)) else (-1)) → gh_T E (gh_yModel_repair.cls, prog_14_method_87_code, 4, false, 0) (d + 2) 174 [(0, 2, 63), (1, 0, v1)] [(0, x4071)] m (fun r m1 => gh_F m1 ∧ Q r m1) := by
      rintro _ rfl
      exact gh_ret0 rfl gd_Model_repair_174 ⟨hF, h⟩
    refine gh_jlt (tgt := 165) gd_Model_repair_158 (by decide) (fun c4072 => ?_) (fun c4072 => ?_)
    · have hz : True := trivial
      have hk := hk c4072
      refine gh_aload_n gd_Model_repair_165 0 rfl (by decide) ?_
      refine gf_63_58 gd_Model_repair_166 gh_k1425 hF ?_
      refine gh_aload_n gd_Model_repair_169 0 rfl (by decide) ?_
      refine gf_63_50 gd_Model_repair_170 gh_k1417 hF rfl ?_
      obtain ⟨q4068, hk⟩ := hk
      have q4069 := hk
      refine la_102 gd_Model_repair_173 hF q4068 q4069 rfl ?_
      exact k4070 _ (by rw [if_pos c4072])
    · have hz : True := trivial
      refine gh_iconst gd_Model_repair_161 (gh_r0 rfl) ?_
      refine gh_goto (tgt := 174) gd_Model_repair_162 (by decide) ?_
      exact k4070 _ (by rw [if_neg c4072])
  · have h := hB c4065
    refine gh_iconst gd_Model_repair_107 (gh_r0 rfl) ?_
    refine gh_istore_n (L2 := [(1, 0, 0), (0, 2, 63)]) gd_Model_repair_108 (by decide) rfl ?_
    refine gh_iconst gd_Model_repair_109 (gh_r0 rfl) ?_
    refine gh_istore_n (L2 := [(2, 0, 0), (1, 0, 0), (0, 2, 63)]) gd_Model_repair_110 (by decide) rfl ?_
    refine gh_pick (L2 := [(0, 2, 63), (1, 0, 0), (2, 0, 0)]) [2, 1, 0] rfl ?_
    exact gh_M2_sound (T := fun v1 v2 m => gh_T E (gh_yModel_repair.cls, prog_14_method_87_code, 4, false, 0) (d + 2) 111 [(0, 2, 63), (1, 0, v1), (2, 0, v2)] [] m (fun r m1 => gh_F m1 ∧ Q r m1)) (fun _ _ m => gh_F m) (fun K111 v1 v2 m hK hF h => b_Model_repair_111 d hK103 hK v1 v2 m hF h) 0 0 m hF h
theorem b_Model_repair_37 {E : gh_E} {Q : Int → gh_M → Prop} {K37 : Int → gh_M → Prop} (d : Nat) (hK : ∀ (v1 : Int) (m : gh_M), gh_F m → K37 v1 m → gh_T E (gh_yModel_repair.cls, prog_14_method_87_code, 4, false, 0) (d + 2) 37 [(0, 2, 63), (1, 0, v1)] [] m (fun r m1 => gh_F m1 ∧ Q r m1)) (v1 : Int) (m : gh_M) (hF : gh_F m) (h : f_Model_repair_37 Q K37 v1 m) : gh_T E (gh_yModel_repair.cls, prog_14_method_87_code, 4, false, 0) (d + 2) 37 [(0, 2, 63), (1, 0, v1)] [] m (fun r m1 => gh_F m1 ∧ Q r m1) := by
  have hK37 := hK
  unfold f_Model_repair_37 at h
  refine gh_iload_n gd_Model_repair_37 1 rfl ?_
  refine gh_sipush gd_Model_repair_38 (by decide) (gh_r0 rfl) ?_
  obtain ⟨hA, hB⟩ := h
  refine gh_jge (tgt := 101) gd_Model_repair_41 (by decide) (fun c4051 => ?_) (fun c4051 => ?_)
  · have h := hA c4051
    refine gh_iload_n gd_Model_repair_44 1 rfl ?_
    refine gh_bipush gd_Model_repair_45 (by decide) (gh_r0 rfl) ?_
    obtain ⟨q4052, h⟩ := h
    refine gh_irem gd_Model_repair_47 q4052 (by decide) ?_
    refine gh_bipush gd_Model_repair_48 (by decide) (gh_r0 rfl) ?_
    obtain ⟨q4053, h⟩ := h
    refine gh_idiv gd_Model_repair_50 q4053 (by decide) ?_
    refine gh_name (fun v2 hn => ?_)
    have h := h v2 hn
    refine gh_istore_n (L2 := [(2, 0, v2), (0, 2, 63), (1, 0, v1)]) gd_Model_repair_51 (by decide) rfl ?_
    refine gh_iload_n gd_Model_repair_52 2 rfl ?_
    refine gh_bipush gd_Model_repair_53 (by decide) (gh_r0 rfl) ?_
    obtain ⟨q4054, h⟩ := h
    refine gh_irem gd_Model_repair_55 q4054 (by decide) ?_
    refine gh_name (fun v3 hn => ?_)
    have h := h v3 hn
    refine gh_istore_n (L2 := [(3, 0, v3), (2, 0, v2), (0, 2, 63), (1, 0, v1)]) gd_Model_repair_56 (by decide) rfl ?_
    refine gh_aload_n gd_Model_repair_57 2 rfl (by decide) ?_
    refine gf_63_59 gd_Model_repair_58 gh_k1426 hF ?_
    refine gh_iload_n gd_Model_repair_61 3 rfl ?_
    refine gh_iload_n gd_Model_repair_62 3 rfl ?_
    refine gh_sipush gd_Model_repair_63 (by decide) (gh_r0 rfl) ?_
    obtain ⟨q4055, h⟩ := h
    refine gh_irem gd_Model_repair_66 q4055 (by decide) ?_
    refine gh_bipush gd_Model_repair_67 (by decide) (gh_r0 rfl) ?_
    obtain ⟨hk, h⟩ := h
    have k4057 : ∀ x4058 : Int, x4058 = (if (v1 % 405) < 81 then (if v2 ≤ v3 then (if v3 ≤ (m 63 50) then (v3 - v2) else 1000000000) else 1000000000) else 1000000000) → gh_T E (gh_yModel_repair.cls, prog_14_method_87_code, 4, false, 0) (d + 2) 94 [(3, 0, v3), (2, 0, v2), (0, 2, 63), (1, 0, v1)] [(0, x4058), (0, v1), (2, 103)] m (fun r m1 => gh_F m1 ∧ Q r m1) := by
      rintro _ rfl
      obtain ⟨q4059, h⟩ := h
      obtain ⟨q4060, h⟩ := h
      refine sa_103 gd_Model_repair_94 hF q4059 q4060 (fun hF => ?_)
      obtain ⟨q4061, h⟩ := h
      refine gh_iinc (L2 := [(1, 0, v1 + 1), (3, 0, v3), (2, 0, v2), (0, 2, 63)]) gd_Model_repair_95 3 rfl q4061 (by decide) rfl ?_
      refine gh_goto (tgt := 37) gd_Model_repair_98 (by decide) ?_
      refine gh_pick (L2 := [(0, 2, 63), (1, 0, v1 + 1)]) [3, 0] rfl ?_
      exact hK37 (v1 + 1) (gh_u m 103 v1 (if (v1 % 405) < 81 then (if v2 ≤ v3 then (if v3 ≤ (m 63 50) then (v3 - v2) else 1000000000) else 1000000000) else 1000000000)) hF h
    refine gh_jge (tgt := 91) gd_Model_repair_69 (by decide) (fun c4062 => ?_) (fun c4062 => ?_)
    · have hz : True := trivial
      have hk := hk c4062
      refine gh_iload_n gd_Model_repair_72 1 rfl ?_
      refine gh_iload_n gd_Model_repair_73 0 rfl ?_
      refine gh_jgt (tgt := 91) gd_Model_repair_74 (by decide) (fun c4063 => ?_) (fun c4063 => ?_)
      · have hz : True := trivial
        have hk := hk c4063
        refine gh_iload_n gd_Model_repair_77 0 rfl ?_
        refine gh_aload_n gd_Model_repair_78 2 rfl (by decide) ?_
        refine gf_63_50 gd_Model_repair_79 gh_k1417 hF rfl ?_
        refine gh_jgt (tgt := 91) gd_Model_repair_82 (by decide) (fun c4064 => ?_) (fun c4064 => ?_)
        · have hz : True := trivial
          have hk := hk c4064
          refine gh_iload_n gd_Model_repair_85 0 rfl ?_
          refine gh_iload_n gd_Model_repair_86 1 rfl ?_
          have q4056 := hk
          refine gh_isub gd_Model_repair_87 q4056 ?_
          refine gh_goto (tgt := 94) gd_Model_repair_88 (by decide) ?_
          exact k4057 _ (by rw [if_pos c4062, if_pos c4063, if_pos c4064])
        · have hz : True := trivial
          refine gh_ldcw (n := 1000000000) gd_Model_repair_91 gh_k1741 (by decide) (gh_r0 rfl) ?_
          exact k4057 _ (by rw [if_pos c4062, if_pos c4063, if_neg c4064])
      · have hz : True := trivial
        refine gh_ldcw (n := 1000000000) gd_Model_repair_91 gh_k1741 (by decide) (gh_r0 rfl) ?_
        exact k4057 _ (by rw [if_pos c4062, if_neg c4063])
    · have hz : True := trivial
      refine gh_ldcw (n := 1000000000) gd_Model_repair_91 gh_k1741 (by decide) (gh_r0 rfl) ?_
      exact k4057 _ (by rw [if_neg c4062])
  · have h := hB c4051
    refine gh_iconst gd_Model_repair_101 (gh_r0 rfl) ?_
    refine gh_istore_n (L2 := [(1, 0, 1), (0, 2, 63)]) gd_Model_repair_102 (by decide) rfl ?_
    refine gh_pick (L2 := [(0, 2, 63), (1, 0, 1)]) [1, 0] rfl ?_
    exact gh_M1_sound (T := fun v1 m => gh_T E (gh_yModel_repair.cls, prog_14_method_87_code, 4, false, 0) (d + 2) 103 [(0, 2, 63), (1, 0, v1)] [] m (fun r m1 => gh_F m1 ∧ Q r m1)) (fun _ m => gh_F m) (fun K103 v1 m hK hF h => b_Model_repair_103 d hK v1 m hF h) 1 m hF h
theorem b_Model_repair_13 {E : gh_E} {Q : Int → gh_M → Prop} {K13 : Int → gh_M → Prop} (d : Nat) (hK : ∀ (v1 : Int) (m : gh_M), gh_F m → K13 v1 m → gh_T E (gh_yModel_repair.cls, prog_14_method_87_code, 4, false, 0) (d + 2) 13 [(0, 2, 63), (1, 0, v1)] [] m (fun r m1 => gh_F m1 ∧ Q r m1)) (v1 : Int) (m : gh_M) (hF : gh_F m) (h : f_Model_repair_13 Q K13 v1 m) : gh_T E (gh_yModel_repair.cls, prog_14_method_87_code, 4, false, 0) (d + 2) 13 [(0, 2, 63), (1, 0, v1)] [] m (fun r m1 => gh_F m1 ∧ Q r m1) := by
  have hK13 := hK
  unfold f_Model_repair_13 at h
  refine gh_iload_n gd_Model_repair_13 1 rfl ?_
  refine gh_sipush gd_Model_repair_14 (by decide) (gh_r0 rfl) ?_
  obtain ⟨hA, hB⟩ := h
  refine gh_jge (tgt := 35) gd_Model_repair_17 (by decide) (fun c4047 => ?_) (fun c4047 => ?_)
  · have h := hA c4047
    refine gh_aload_n gd_Model_repair_20 0 rfl (by decide) ?_
    refine gf_63_58 gd_Model_repair_21 gh_k1425 hF ?_
    refine gh_iload_n gd_Model_repair_24 1 rfl ?_
    refine gh_ldcw (n := 1000000000) gd_Model_repair_25 gh_k1741 (by decide) (gh_r0 rfl) ?_
    obtain ⟨q4048, h⟩ := h
    obtain ⟨q4049, h⟩ := h
    refine sa_102 gd_Model_repair_28 hF q4048 q4049 (fun hF => ?_)
    obtain ⟨q4050, h⟩ := h
    refine gh_iinc (L2 := [(1, 0, v1 + 1), (0, 2, 63)]) gd_Model_repair_29 1 rfl q4050 (by decide) rfl ?_
    refine gh_goto (tgt := 13) gd_Model_repair_32 (by decide) ?_
    refine gh_pick (L2 := [(0, 2, 63), (1, 0, v1 + 1)]) [1, 0] rfl ?_
    exact hK13 (v1 + 1) (gh_u m 102 v1 1000000000) hF h
  · have h := hB c4047
    refine gh_iconst gd_Model_repair_35 (gh_r0 rfl) ?_
    refine gh_istore_n (L2 := [(1, 0, 0), (0, 2, 63)]) gd_Model_repair_36 (by decide) rfl ?_
    refine gh_pick (L2 := [(0, 2, 63), (1, 0, 0)]) [1, 0] rfl ?_
    exact gh_M1_sound (T := fun v1 m => gh_T E (gh_yModel_repair.cls, prog_14_method_87_code, 4, false, 0) (d + 2) 37 [(0, 2, 63), (1, 0, v1)] [] m (fun r m1 => gh_F m1 ∧ Q r m1)) (fun _ m => gh_F m) (fun K37 v1 m hK hF h => b_Model_repair_37 d hK v1 m hF h) 0 m hF h
theorem s_Model_repair {E : gh_E} {m : gh_M} {Q : Int → gh_M → Prop} (d : Nat) (hF : gh_F m) (h : w_Model_repair m Q) : gh_C E gh_yModel_repair prog_14_method_87_code 4 (some .int) 0 (d + 2) [(2, 63)] m (fun r m1 => gh_F m1 ∧ Q r m1) := by
  refine gh_enter2 (L := [(0, 2, 63)]) (by decide +kernel) gh_rt0 (Nat.le_of_ble_eq_true rfl) rfl rfl ?_
  unfold w_Model_repair at h
  refine gh_aload_n gd_Model_repair_0 0 rfl (by decide) ?_
  refine gf_63_24 gd_Model_repair_1 gh_k1391 hF rfl ?_
  obtain ⟨hA, hB⟩ := h
  refine gh_zne (tgt := 11) gd_Model_repair_4 (by decide) (fun c4046 => ?_) (fun c4046 => ?_)
  · have h := hA c4046
    refine gh_sipush gd_Model_repair_7 (by decide) (gh_r0 rfl) ?_
    exact gh_ret0 rfl gd_Model_repair_10 ⟨hF, h⟩
  · have h := hB c4046
    refine gh_iconst gd_Model_repair_11 (gh_r0 rfl) ?_
    refine gh_istore_n (L2 := [(1, 0, 0), (0, 2, 63)]) gd_Model_repair_12 (by decide) rfl ?_
    refine gh_pick (L2 := [(0, 2, 63), (1, 0, 0)]) [1, 0] rfl ?_
    exact gh_M1_sound (T := fun v1 m => gh_T E (gh_yModel_repair.cls, prog_14_method_87_code, 4, false, 0) (d + 2) 13 [(0, 2, 63), (1, 0, v1)] [] m (fun r m1 => gh_F m1 ∧ Q r m1)) (fun _ m => gh_F m) (fun K13 v1 m hK hF h => b_Model_repair_13 d hK v1 m hF h) 0 m hF h
def w_Model_want (v1 : Int) (m : gh_M) (Q : Int → gh_M → Prop) : Prop := ((¬ (v1 < 0) → (0 ≤ v1 ∧ v1 < 165888 ∧ (((m 105 v1) < 0) → (0 ≤ v1 ∧ v1 < 165888))))) ∧ ((((v1 < 0) ∨ (¬ ((m 105 v1) < 0) ∨ ((m 106 v1) = (m 63 64)))) → Q 0 m) ∧ (¬ ((v1 < 0) ∨ (¬ ((m 105 v1) < 0) ∨ ((m 106 v1) = (m 63 64)))) → 0 ≤ v1 ∧ v1 < 165888 ∧ 0 ≤ m 63 66 ∧ (m 63 66) < 60000 ∧ gh_i ((m 63 66) + 1) ∧ Q 0 (gh_u (gh_u (gh_u m 106 v1 (m 63 64)) 107 (m 63 66) v1) 63 66 ((m 63 66) + 1))))
theorem s_Model_want {E : gh_E} {m : gh_M} {Q : Int → gh_M → Prop} (d : Nat) (v1 : Int) (hF : gh_F m) (h : w_Model_want v1 m Q) : gh_C E gh_yModel_want prog_14_method_94_code 2 none 9 (d + 0) [(2, 63), (0, v1)] m (fun r m1 => gh_F m1 ∧ Q r m1) := by
  refine gh_enter2 (L := [(0, 2, 63), (1, 0, v1)]) (by decide +kernel) gh_rt9 (Nat.le_of_ble_eq_true rfl) rfl rfl ?_
  unfold w_Model_want at h
  refine gh_iload_n gd_Model_want_0 1 rfl ?_
  obtain ⟨hk, hA, hB⟩ := h
  have k4085 : ((v1 < 0) ∨ (¬ ((m 105 v1) < 0) ∨ ((m 106 v1) = (m 63 64)))) → gh_T E (gh_yModel_want.cls, prog_14_method_94_code, 2, false, 9) (d + 0) 58 [(0, 2, 63), (1, 0, v1)] [] m (fun r m1 => gh_F m1 ∧ Q r m1) := by
    intro c
    have h := hA c
    exact gh_ret9 rfl gd_Model_want_58 ⟨hF, h⟩
  have k4086 : ¬ ((v1 < 0) ∨ (¬ ((m 105 v1) < 0) ∨ ((m 106 v1) = (m 63 64)))) → gh_T E (gh_yModel_want.cls, prog_14_method_94_code, 2, false, 9) (d + 0) 28 [(0, 2, 63), (1, 0, v1)] [] m (fun r m1 => gh_F m1 ∧ Q r m1) := by
    intro c
    have h := hB c
    refine gh_aload_n gd_Model_want_28 0 rfl (by decide) ?_
    refine gf_63_63 gd_Model_want_29 gh_k1430 hF ?_
    refine gh_iload_n gd_Model_want_32 1 rfl ?_
    refine gh_aload_n gd_Model_want_33 0 rfl (by decide) ?_
    refine gf_63_64 gd_Model_want_34 gh_k1431 hF rfl ?_
    obtain ⟨q4087, h⟩ := h
    obtain ⟨q4088, h⟩ := h
    refine sa_106 gd_Model_want_37 hF q4087 q4088 (fun hF => ?_)
    refine gh_aload_n gd_Model_want_38 0 rfl (by decide) ?_
    refine gf_63_65 gd_Model_want_39 gh_k1432 hF ?_
    refine gh_aload_n gd_Model_want_42 0 rfl (by decide) ?_
    refine gf_63_66 gd_Model_want_43 gh_k1433 hF (gh_u_a (by decide)) ?_
    refine gh_iload_n gd_Model_want_46 1 rfl ?_
    obtain ⟨q4089, h⟩ := h
    obtain ⟨q4090, h⟩ := h
    refine sa_107 gd_Model_want_47 hF q4089 q4090 (fun hF => ?_)
    refine gh_aload_n gd_Model_want_48 0 rfl (by decide) ?_
    refine gh_dup gd_Model_want_49 (by decide) ?_
    refine gf_63_66 gd_Model_want_50 gh_k1433 hF ((gh_u_a (by decide)).trans (gh_u_a (by decide))) ?_
    refine gh_iconst gd_Model_want_53 (gh_r0 rfl) ?_
    obtain ⟨q4091, h⟩ := h
    refine gh_iadd gd_Model_want_54 q4091 ?_
    refine pf_63_66 gd_Model_want_55 gh_k1433 hF (fun hF => ?_)
    exact gh_ret9 rfl gd_Model_want_58 ⟨hF, h⟩
  refine gh_zlt (tgt := 58) gd_Model_want_1 (by decide) (fun c4092 => ?_) (fun c4092 => ?_)
  · have hz : True := trivial
    exact k4085 (Or.inl c4092)
  · have hz : True := trivial
    have hk := hk c4092
    refine gh_aload_n gd_Model_want_4 0 rfl (by decide) ?_
    refine gf_63_62 gd_Model_want_5 gh_k1429 hF ?_
    refine gh_iload_n gd_Model_want_8 1 rfl ?_
    obtain ⟨q4081, hk⟩ := hk
    obtain ⟨q4082, hk⟩ := hk
    refine la_105 gd_Model_want_9 hF q4081 q4082 rfl ?_
    refine gh_lconst (n := 0) gd_Model_want_10 (by decide) (gh_r1 rfl) ?_
    refine gh_lcmp gd_Model_want_11 ?_
    refine gh_cge (tgt := 58) gd_Model_want_12 (by decide) (fun c4093 => ?_) (fun c4093 => ?_)
    · have hz : True := trivial
      have hk := hk c4093
      refine gh_aload_n gd_Model_want_15 0 rfl (by decide) ?_
      refine gf_63_63 gd_Model_want_16 gh_k1430 hF ?_
      refine gh_iload_n gd_Model_want_19 1 rfl ?_
      obtain ⟨q4083, hk⟩ := hk
      have q4084 := hk
      refine la_106 gd_Model_want_20 hF q4083 q4084 rfl ?_
      refine gh_aload_n gd_Model_want_21 0 rfl (by decide) ?_
      refine gf_63_64 gd_Model_want_22 gh_k1431 hF rfl ?_
      refine gh_jeq (tgt := 58) gd_Model_want_25 (by decide) (fun c4094 => ?_) (fun c4094 => ?_)
      · have hz : True := trivial
        exact k4085 (Or.inr (Or.inr c4094))
      · have hz : True := trivial
        exact k4086 (fun z => z.elim c4092 (fun z => z.elim (fun w => w c4093) c4094))
    · have hz : True := trivial
      exact k4085 (Or.inr (Or.inl c4093))
def w_Model_keyWithin (v1 : Int) (v2 : Int) (v3 : Int) (v4 : Int) (v5 : Int) (v6 : Int) (m : gh_M) (Q : Int → Prop) : Prop := (((v1 ≤ 0) → (gh_i ((-1) - v1) ∧ gh_i (81 * ((-1) - v1)) ∧ gh_i (9 * v2) ∧ gh_i ((81 * ((-1) - v1)) + (9 * v2)) ∧ gh_i (((81 * ((-1) - v1)) + (9 * v2)) + v3) ∧ 0 ≤ ((81 * ((-1) - v1)) + (9 * v2)) + v3 ∧ (((81 * ((-1) - v1)) + (9 * v2)) + v3) < 648))) ∧ (((¬ (v1 ≤ 0) ∨ ((m 97 (((81 * ((-1) - v1)) + (9 * v2)) + v3)) = 0)) → Q (-1)) ∧ (¬ (¬ (v1 ≤ 0) ∨ ((m 97 (((81 * ((-1) - v1)) + (9 * v2)) + v3)) = 0)) → ∀ v7 : Int, v7 = (if ((v2 = v4) ∧ (v3 = v5)) then (1:Int) else 0) → ∃ J65 : Prop, (J65 → gh_i ((-1) - v1) ∧ (gh_i (81 * ((-1) - v1)) ∧ ((v2 = v3) → (gh_i ((81 * ((-1) - v1)) + 0) ∧ gh_i (256 * ((81 * ((-1) - v1)) + 0)) ∧ gh_i ((256 * ((81 * ((-1) - v1)) + 0)) + (if v7 = 0 then 0 else v6)))) ∧ (¬ (v2 = v3) → (gh_i (9 * v2) ∧ gh_i ((9 * v2) + v3) ∧ gh_i ((81 * ((-1) - v1)) + ((9 * v2) + v3)) ∧ gh_i (256 * ((81 * ((-1) - v1)) + ((9 * v2) + v3))) ∧ gh_i ((256 * ((81 * ((-1) - v1)) + ((9 * v2) + v3))) + (if v7 = 0 then 0 else v6))))) ∧ Q ((if v2 = v3 then ((256 * ((81 * ((-1) - v1)) + 0)) + (if v7 = 0 then 0 else v6)) else ((256 * ((81 * ((-1) - v1)) + ((9 * v2) + v3))) + (if v7 = 0 then 0 else v6))))) ∧ ((¬ (v7 = 0) → (gh_i ((-1) - v1)))) ∧ (((¬ (v7 = 0) ∧ ((gh_iand_f (gh_ishr_f v6 ((-1) - v1)) 1) = 1)) → Q (-1)) ∧ (¬ (¬ (v7 = 0) ∧ ((gh_iand_f (gh_ishr_f v6 ((-1) - v1)) 1) = 1)) → J65))))
theorem s_Model_keyWithin {E : gh_E} {m : gh_M} {Q : Int → Prop} (d : Nat) (v1 : Int) (v2 : Int) (v3 : Int) (v4 : Int) (v5 : Int) (v6 : Int) (hF : gh_F m) (h : w_Model_keyWithin v1 v2 v3 v4 v5 v6 m Q) : gh_C E gh_yModel_keyWithin prog_14_method_91_code 8 (some .int) 0 (d + 1) [(2, 63), (0, v1), (0, v2), (0, v3), (0, v4), (0, v5), (0, v6)] m (fun r m1 => m1 = m ∧ Q r) := by
  refine gh_enter2 (L := [(0, 2, 63), (1, 0, v1), (2, 0, v2), (3, 0, v3), (4, 0, v4), (5, 0, v5), (6, 0, v6)]) (by decide +kernel) gh_rt0 (Nat.le_of_ble_eq_true rfl) rfl rfl ?_
  unfold w_Model_keyWithin at h
  refine gh_iload_n gd_Model_keyWithin_0 1 rfl ?_
  obtain ⟨hk, hA, hB⟩ := h
  have k4102 : (¬ (v1 ≤ 0) ∨ ((m 97 (((81 * ((-1) - v1)) + (9 * v2)) + v3)) = 0)) → gh_T E (gh_yModel_keyWithin.cls, prog_14_method_91_code, 8, false, 0) (d + 1) 25 [(0, 2, 63), (1, 0, v1), (2, 0, v2), (3, 0, v3), (4, 0, v4), (5, 0, v5), (6, 0, v6)] [] m (fun r m1 => m1 = m ∧ Q r) := by
    intro c
    have h := hA c
    refine gh_iconst gd_Model_keyWithin_25 (gh_r0 rfl) ?_
    exact gh_ret0 rfl gd_Model_keyWithin_26 ⟨rfl, h⟩
  have k4103 : ¬ (¬ (v1 ≤ 0) ∨ ((m 97 (((81 * ((-1) - v1)) + (9 * v2)) + v3)) = 0)) → gh_T E (gh_yModel_keyWithin.cls, prog_14_method_91_code, 8, false, 0) (d + 1) 27 [(0, 2, 63), (1, 0, v1), (2, 0, v2), (3, 0, v3), (4, 0, v4), (5, 0, v5), (6, 0, v6)] [] m (fun r m1 => m1 = m ∧ Q r) := by
    intro c
    have h := hB c
    refine gh_iload_n gd_Model_keyWithin_27 2 rfl ?_
    refine gh_iload gd_Model_keyWithin_28 4 rfl ?_
    have k4104 : ∀ x4105 : Int, x4105 = (if ((v2 = v4) ∧ (v3 = v5)) then (1:Int) else 0) → gh_T E (gh_yModel_keyWithin.cls, prog_14_method_91_code, 8, false, 0) (d + 1) 44 [(0, 2, 63), (1, 0, v1), (2, 0, v2), (3, 0, v3), (4, 0, v4), (5, 0, v5), (6, 0, v6)] [(0, x4105)] m (fun r m1 => m1 = m ∧ Q r) := by
      rintro _ rfl
      refine gh_name (fun v7 hn => ?_)
      have h := h v7 hn
      refine gh_istore (L2 := [(7, 0, v7), (0, 2, 63), (1, 0, v1), (2, 0, v2), (3, 0, v3), (4, 0, v4), (5, 0, v5), (6, 0, v6)]) gd_Model_keyWithin_44 (by decide) rfl ?_
      refine gh_iload gd_Model_keyWithin_46 0 rfl ?_
      obtain ⟨J65, hJ65, h⟩ := h
      have hJ65 : gh_F m → J65 → gh_T E (gh_yModel_keyWithin.cls, prog_14_method_91_code, 8, false, 0) (d + 1) 65 [(1, 0, v1), (2, 0, v2), (3, 0, v3), (6, 0, v6), (7, 0, v7)] [] m (fun r m1 => m1 = m ∧ Q r) := by
        intro hF hj
        have h := hJ65 hj
        refine gh_iconst gd_Model_keyWithin_65 (gh_r0 rfl) ?_
        refine gh_iload_n gd_Model_keyWithin_66 0 rfl ?_
        obtain ⟨q4106, h⟩ := h
        refine gh_isub gd_Model_keyWithin_67 q4106 ?_
        refine gh_iload_n gd_Model_keyWithin_68 1 rfl ?_
        refine gh_iload_n gd_Model_keyWithin_69 2 rfl ?_
        refine gh_iload gd_Model_keyWithin_70 4 rfl ?_
        have k4107 : ∀ x4108 : Int, x4108 = (if v7 = 0 then 0 else v6) → gh_T E (gh_yModel_keyWithin.cls, prog_14_method_91_code, 8, false, 0) (d + 1) 81 [(1, 0, v1), (2, 0, v2), (3, 0, v3), (6, 0, v6), (7, 0, v7)] [(0, x4108), (0, v3), (0, v2), (0, (-1) - v1)] m (fun r m1 => m1 = m ∧ Q r) := by
          rintro _ rfl
          obtain ⟨q4109, h⟩ := h
          refine cv_Model_keyOf (d := d) gd_Model_keyWithin_81 gh_k1974 (Nat.le_of_ble_eq_true rfl) (gh_C.pe (e_Model_keyOf d ((-1) - v1) v2 v3 (if v7 = 0 then 0 else v6) q4109) ?_)
          exact gh_ret0 rfl gd_Model_keyWithin_84 ⟨rfl, h⟩
        refine gh_zeq (tgt := 80) gd_Model_keyWithin_72 (by decide) (fun c4110 => ?_) (fun c4110 => ?_)
        · have hz : True := trivial
          refine gh_iconst gd_Model_keyWithin_80 (gh_r0 rfl) ?_
          exact k4107 _ (by rw [if_pos c4110])
        · have hz : True := trivial
          refine gh_iload gd_Model_keyWithin_75 3 rfl ?_
          refine gh_goto (tgt := 81) gd_Model_keyWithin_77 (by decide) ?_
          exact k4107 _ (by rw [if_neg c4110])
      obtain ⟨hk, hA, hB⟩ := h
      have k4112 : (¬ (v7 = 0) ∧ ((gh_iand_f (gh_ishr_f v6 ((-1) - v1)) 1) = 1)) → gh_T E (gh_yModel_keyWithin.cls, prog_14_method_91_code, 8, false, 0) (d + 1) 63 [(7, 0, v7), (0, 2, 63), (1, 0, v1), (2, 0, v2), (3, 0, v3), (4, 0, v4), (5, 0, v5), (6, 0, v6)] [] m (fun r m1 => m1 = m ∧ Q r) := by
        intro c
        have h := hA c
        refine gh_iconst gd_Model_keyWithin_63 (gh_r0 rfl) ?_
        exact gh_ret0 rfl gd_Model_keyWithin_64 ⟨rfl, h⟩
      have k4113 : ¬ (¬ (v7 = 0) ∧ ((gh_iand_f (gh_ishr_f v6 ((-1) - v1)) 1) = 1)) → gh_T E (gh_yModel_keyWithin.cls, prog_14_method_91_code, 8, false, 0) (d + 1) 65 [(7, 0, v7), (0, 2, 63), (1, 0, v1), (2, 0, v2), (3, 0, v3), (4, 0, v4), (5, 0, v5), (6, 0, v6)] [] m (fun r m1 => m1 = m ∧ Q r) := by
        intro c
        have h := hB c
        refine gh_pick (L2 := [(1, 0, v1), (2, 0, v2), (3, 0, v3), (6, 0, v6), (7, 0, v7)]) [2, 3, 4, 7, 0] rfl ?_
        exact hJ65 hF h
      refine gh_zeq (tgt := 65) gd_Model_keyWithin_48 (by decide) (fun c4114 => ?_) (fun c4114 => ?_)
      · have hz : True := trivial
        exact k4113 (fun z => z.1 c4114)
      · have hz : True := trivial
        have hk := hk c4114
        refine gh_iload gd_Model_keyWithin_51 7 rfl ?_
        refine gh_iconst gd_Model_keyWithin_53 (gh_r0 rfl) ?_
        refine gh_iload_n gd_Model_keyWithin_54 2 rfl ?_
        have q4111 := hk
        refine gh_isub gd_Model_keyWithin_55 q4111 ?_
        refine gh_ishr gd_Model_keyWithin_56 ?_
        refine gh_iconst gd_Model_keyWithin_57 (gh_r0 rfl) ?_
        refine gh_iand gd_Model_keyWithin_58 ?_
        refine gh_iconst gd_Model_keyWithin_59 (gh_r0 rfl) ?_
        refine gh_jne (tgt := 65) gd_Model_keyWithin_60 (by decide) (fun c4115 => ?_) (fun c4115 => ?_)
        · have hz : True := trivial
          exact k4112 ⟨c4114, c4115⟩
        · have hz : True := trivial
          exact k4113 (fun z => c4115 z.2)
    refine gh_jne (tgt := 43) gd_Model_keyWithin_30 (by decide) (fun c4116 => ?_) (fun c4116 => ?_)
    · have hz : True := trivial
      refine gh_iload_n gd_Model_keyWithin_33 3 rfl ?_
      refine gh_iload gd_Model_keyWithin_34 5 rfl ?_
      refine gh_jne (tgt := 43) gd_Model_keyWithin_36 (by decide) (fun c4117 => ?_) (fun c4117 => ?_)
      · have hz : True := trivial
        refine gh_iconst gd_Model_keyWithin_39 (gh_r0 rfl) ?_
        refine gh_goto (tgt := 44) gd_Model_keyWithin_40 (by decide) ?_
        exact k4104 _ (if_pos (c := ((v2 = v4) ∧ (v3 = v5))) ⟨c4116, c4117⟩).symm
      · have hz : True := trivial
        refine gh_iconst gd_Model_keyWithin_43 (gh_r0 rfl) ?_
        exact k4104 _ (if_neg (c := ((v2 = v4) ∧ (v3 = v5))) (fun z => c4117 z.2)).symm
    · have hz : True := trivial
      refine gh_iconst gd_Model_keyWithin_43 (gh_r0 rfl) ?_
      exact k4104 _ (if_neg (c := ((v2 = v4) ∧ (v3 = v5))) (fun z => c4116 z.1)).symm
  refine gh_zgt (tgt := 25) gd_Model_keyWithin_1 (by decide) (fun c4118 => ?_) (fun c4118 => ?_)
  · have hz : True := trivial
    have hk := hk c4118
    refine gh_aload_n gd_Model_keyWithin_4 0 rfl (by decide) ?_
    refine gf_63_53 gd_Model_keyWithin_5 gh_k1420 hF ?_
    refine gh_bipush gd_Model_keyWithin_8 (by decide) (gh_r0 rfl) ?_
    refine gh_iconst gd_Model_keyWithin_10 (gh_r0 rfl) ?_
    refine gh_iload_n gd_Model_keyWithin_11 1 rfl ?_
    obtain ⟨q4095, hk⟩ := hk
    refine gh_isub gd_Model_keyWithin_12 q4095 ?_
    obtain ⟨q4096, hk⟩ := hk
    refine gh_imul gd_Model_keyWithin_13 q4096 ?_
    refine gh_bipush gd_Model_keyWithin_14 (by decide) (gh_r0 rfl) ?_
    refine gh_iload_n gd_Model_keyWithin_16 2 rfl ?_
    obtain ⟨q4097, hk⟩ := hk
    refine gh_imul gd_Model_keyWithin_17 q4097 ?_
    obtain ⟨q4098, hk⟩ := hk
    refine gh_iadd gd_Model_keyWithin_18 q4098 ?_
    refine gh_iload_n gd_Model_keyWithin_19 3 rfl ?_
    obtain ⟨q4099, hk⟩ := hk
    refine gh_iadd gd_Model_keyWithin_20 q4099 ?_
    obtain ⟨q4100, hk⟩ := hk
    have q4101 := hk
    refine la_97 gd_Model_keyWithin_21 hF q4100 q4101 rfl ?_
    refine gh_zne (tgt := 27) gd_Model_keyWithin_22 (by decide) (fun c4119 => ?_) (fun c4119 => ?_)
    · have hz : True := trivial
      exact k4102 (Or.inr c4119)
    · have hz : True := trivial
      exact k4103 (fun z => z.elim (fun w => w c4118) c4119)
  · have hz : True := trivial
    exact k4102 (Or.inl c4118)
def f_Model_wantFor_64 (v1 : Int) (v2 : Int) (v3 : Int) (v4 : Int) (v5 : Int) (v6 : Int) (v7 : Int) (K54 : Int → gh_M → Prop) (K64 : Int → gh_M → Prop) (v8 : Int) (m : gh_M) : Prop := ∃ J122 : gh_M → Prop, (∀ (m : gh_M), J122 m → gh_i (v7 + 1) ∧ K54 (v7 + 1) m) ∧ (((v8 ≤ v3) → ((gh_i (405 * v5) ∧ gh_i (81 * v6) ∧ gh_i ((405 * v5) + (81 * v6)) ∧ gh_i (9 * v2) ∧ gh_i (((405 * v5) + (81 * v6)) + (9 * v2)) ∧ gh_i ((((405 * v5) + (81 * v6)) + (9 * v2)) + v7)) ∧ 0 ≤ ((((405 * v5) + (81 * v6)) + (9 * v2)) + v7) ∧ (((((405 * v5) + (81 * v6)) + (9 * v2)) + v7)) < 8100))) ∧ (((¬ (v8 ≤ v3) ∨ ((m 98 (((((405 * v5) + (81 * v6)) + (9 * v2)) + v7))) = 0)) → J122 m) ∧ (¬ (¬ (v8 ≤ v3) ∨ ((m 98 (((((405 * v5) + (81 * v6)) + (9 * v2)) + v7))) = 0)) → gh_i (4 * v5) ∧ gh_i ((4 * v5) + v6) ∧ 0 ≤ (4 * v5) + v6 ∧ ((4 * v5) + v6) < 80 ∧ w_Model_keyWithin (m 81 ((4 * v5) + v6)) v7 v8 v2 v3 v4 m (fun r4143 => w_Model_want r4143 m (fun _ m4146 => gh_i (v8 + 1) ∧ K64 (v8 + 1) m4146))))
def f_Model_wantFor_54 (v1 : Int) (v2 : Int) (v3 : Int) (v4 : Int) (v5 : Int) (v6 : Int) (K39 : Int → gh_M → Prop) (K54 : Int → gh_M → Prop) (v7 : Int) (m : gh_M) : Prop := ((v7 ≤ v3 → gh_M1 (fun K64 v8 m => f_Model_wantFor_64 v1 v2 v3 v4 v5 v6 v7 K54 K64 v8 m) v7 m) ∧ (¬ (v7 ≤ v3) → gh_i (v6 + 1) ∧ K39 (v6 + 1) m))
def f_Model_wantFor_39 (v1 : Int) (v2 : Int) (v3 : Int) (v4 : Int) (v5 : Int) (K18 : Int → gh_M → Prop) (K39 : Int → gh_M → Prop) (v6 : Int) (m : gh_M) : Prop := 0 ≤ v5 ∧ v5 < 20 ∧ ((v6 < (m 80 v5) → gh_M1 (fun K54 v7 m => f_Model_wantFor_54 v1 v2 v3 v4 v5 v6 K39 K54 v7 m) v2 m) ∧ (¬ (v6 < (m 80 v5)) → gh_i (v5 + 1) ∧ K18 (v5 + 1) m))
def f_Model_wantFor_18 (v1 : Int) (v2 : Int) (v3 : Int) (v4 : Int) (Q : Int → gh_M → Prop) (K18 : Int → gh_M → Prop) (v5 : Int) (m : gh_M) : Prop := 0 ≤ v1 ∧ v1 < 8 ∧ 0 ≤ v1 ∧ v1 < 8 ∧ gh_i ((m 77 v1) + (m 78 v1)) ∧ ((v5 < ((m 77 v1) + (m 78 v1)) → gh_M1 (fun K39 v6 m => f_Model_wantFor_39 v1 v2 v3 v4 v5 K18 K39 v6 m) 0 m) ∧ (¬ (v5 < ((m 77 v1) + (m 78 v1))) → Q 0 m))
def w_Model_wantFor (v1 : Int) (v2 : Int) (v3 : Int) (v4 : Int) (m : gh_M) (Q : Int → gh_M → Prop) : Prop := gh_i ((m 63 64) + 1) ∧ 0 ≤ v1 ∧ v1 < 8 ∧ ∀ v5 : Int, v5 = m 77 v1 → gh_M1 (fun K18 v5 m => f_Model_wantFor_18 v1 v2 v3 v4 Q K18 v5 m) v5 (gh_u m 63 64 ((m 63 64) + 1))
theorem b_Model_wantFor_64 {E : gh_E} {v1 : Int} {v2 : Int} {v3 : Int} {v4 : Int} {v5 : Int} {v6 : Int} {v7 : Int} {K54 : Int → gh_M → Prop} {Q : Int → gh_M → Prop} {K64 : Int → gh_M → Prop} (d : Nat) (hK54 : ∀ (v7 : Int) (m : gh_M), gh_F m → K54 v7 m → gh_T E (gh_yModel_wantFor.cls, prog_14_method_95_code, 9, false, 9) (d + 2) 54 [(0, 2, 63), (1, 0, v1), (2, 0, v2), (3, 0, v3), (4, 0, v4), (5, 0, v5), (6, 0, v6), (7, 0, v7)] [] m (fun r m1 => gh_F m1 ∧ Q r m1)) (hK : ∀ (v8 : Int) (m : gh_M), gh_F m → K64 v8 m → gh_T E (gh_yModel_wantFor.cls, prog_14_method_95_code, 9, false, 9) (d + 2) 64 [(0, 2, 63), (1, 0, v1), (2, 0, v2), (3, 0, v3), (4, 0, v4), (5, 0, v5), (6, 0, v6), (7, 0, v7), (8, 0, v8)] [] m (fun r m1 => gh_F m1 ∧ Q r m1)) (v8 : Int) (m : gh_M) (hF : gh_F m) (h : f_Model_wantFor_64 v1 v2 v3 v4 v5 v6 v7 K54 K64 v8 m) : gh_T E (gh_yModel_wantFor.cls, prog_14_method_95_code, 9, false, 9) (d + 2) 64 [(0, 2, 63), (1, 0, v1), (2, 0, v2), (3, 0, v3), (4, 0, v4), (5, 0, v5), (6, 0, v6), (7, 0, v7), (8, 0, v8)] [] m (fun r m1 => gh_F m1 ∧ Q r m1) := by
  have hK64 := hK
  unfold f_Model_wantFor_64 at h
  refine gh_iload gd_Model_wantFor_64 8 rfl ?_
  refine gh_iload_n gd_Model_wantFor_66 3 rfl ?_
  obtain ⟨J122, hJ122, h⟩ := h
  have hJ122 : ∀ (m : gh_M), gh_F m → J122 m → gh_T E (gh_yModel_wantFor.cls, prog_14_method_95_code, 9, false, 9) (d + 2) 122 [(0, 2, 63), (1, 0, v1), (2, 0, v2), (3, 0, v3), (4, 0, v4), (5, 0, v5), (6, 0, v6), (7, 0, v7)] [] m (fun r m1 => gh_F m1 ∧ Q r m1) := by
    intro m hF hj
    have h := hJ122 m hj
    obtain ⟨q4133, h⟩ := h
    refine gh_iinc (L2 := [(7, 0, v7 + 1), (0, 2, 63), (1, 0, v1), (2, 0, v2), (3, 0, v3), (4, 0, v4), (5, 0, v5), (6, 0, v6)]) gd_Model_wantFor_122 7 rfl q4133 (by decide) rfl ?_
    refine gh_goto (tgt := 54) gd_Model_wantFor_125 (by decide) ?_
    refine gh_pick (L2 := [(0, 2, 63), (1, 0, v1), (2, 0, v2), (3, 0, v3), (4, 0, v4), (5, 0, v5), (6, 0, v6), (7, 0, v7 + 1)]) [1, 2, 3, 4, 5, 6, 7, 0] rfl ?_
    exact hK54 (v7 + 1) m hF h
  obtain ⟨hk, hA, hB⟩ := h
  have k4137 : (¬ (v8 ≤ v3) ∨ ((m 98 (((((405 * v5) + (81 * v6)) + (9 * v2)) + v7))) = 0)) → gh_T E (gh_yModel_wantFor.cls, prog_14_method_95_code, 9, false, 9) (d + 2) 122 [(0, 2, 63), (1, 0, v1), (2, 0, v2), (3, 0, v3), (4, 0, v4), (5, 0, v5), (6, 0, v6), (7, 0, v7), (8, 0, v8)] [] m (fun r m1 => gh_F m1 ∧ Q r m1) := by
    intro c
    have h := hA c
    refine gh_pick (L2 := [(0, 2, 63), (1, 0, v1), (2, 0, v2), (3, 0, v3), (4, 0, v4), (5, 0, v5), (6, 0, v6), (7, 0, v7)]) [0, 1, 2, 3, 4, 5, 6, 7] rfl ?_
    exact hJ122 m hF h
  have k4138 : ¬ (¬ (v8 ≤ v3) ∨ ((m 98 (((((405 * v5) + (81 * v6)) + (9 * v2)) + v7))) = 0)) → gh_T E (gh_yModel_wantFor.cls, prog_14_method_95_code, 9, false, 9) (d + 2) 88 [(0, 2, 63), (1, 0, v1), (2, 0, v2), (3, 0, v3), (4, 0, v4), (5, 0, v5), (6, 0, v6), (7, 0, v7), (8, 0, v8)] [] m (fun r m1 => gh_F m1 ∧ Q r m1) := by
    intro c
    have h := hB c
    refine gh_aload_n gd_Model_wantFor_88 0 rfl (by decide) ?_
    refine gh_aload_n gd_Model_wantFor_89 0 rfl (by decide) ?_
    refine gh_aload_n gd_Model_wantFor_90 0 rfl (by decide) ?_
    refine gf_63_34 gd_Model_wantFor_91 gh_k1401 hF ?_
    refine gh_iconst gd_Model_wantFor_94 (gh_r0 rfl) ?_
    refine gh_iload gd_Model_wantFor_95 5 rfl ?_
    obtain ⟨q4139, h⟩ := h
    refine gh_imul gd_Model_wantFor_97 q4139 ?_
    refine gh_iload gd_Model_wantFor_98 6 rfl ?_
    obtain ⟨q4140, h⟩ := h
    refine gh_iadd gd_Model_wantFor_100 q4140 ?_
    obtain ⟨q4141, h⟩ := h
    obtain ⟨q4142, h⟩ := h
    refine la_81 gd_Model_wantFor_101 hF q4141 q4142 rfl ?_
    refine gh_iload gd_Model_wantFor_102 7 rfl ?_
    refine gh_iload gd_Model_wantFor_104 8 rfl ?_
    refine gh_iload_n gd_Model_wantFor_106 2 rfl ?_
    refine gh_iload_n gd_Model_wantFor_107 3 rfl ?_
    refine gh_iload gd_Model_wantFor_108 4 rfl ?_
    refine cv_Model_keyWithin (d := d + 1) gd_Model_wantFor_110 gh_k1985 hF (Nat.le_of_ble_eq_true rfl) (gh_C.pw (s_Model_keyWithin d (m 81 ((4 * v5) + v6)) v7 v8 v2 v3 v4 hF h) (fun r4143 h => ?_))
    refine cv_Model_want (d := d + 1) gd_Model_wantFor_113 gh_k1977 hF (Nat.le_of_ble_eq_true rfl) (gh_C.mono (s_Model_want (d + 1) r4143 hF h) (fun r4145 m4146 hq => ?_))
    obtain ⟨hF, h⟩ := hq
    obtain ⟨q4147, h⟩ := h
    refine gh_iinc (L2 := [(8, 0, v8 + 1), (0, 2, 63), (1, 0, v1), (2, 0, v2), (3, 0, v3), (4, 0, v4), (5, 0, v5), (6, 0, v6), (7, 0, v7)]) gd_Model_wantFor_116 8 rfl q4147 (by decide) rfl ?_
    refine gh_goto (tgt := 64) gd_Model_wantFor_119 (by decide) ?_
    refine gh_pick (L2 := [(0, 2, 63), (1, 0, v1), (2, 0, v2), (3, 0, v3), (4, 0, v4), (5, 0, v5), (6, 0, v6), (7, 0, v7), (8, 0, v8 + 1)]) [1, 2, 3, 4, 5, 6, 7, 8, 0] rfl ?_
    exact hK64 (v8 + 1) m4146 hF h
  refine gh_jgt (tgt := 122) gd_Model_wantFor_67 (by decide) (fun c4148 => ?_) (fun c4148 => ?_)
  · have hz : True := trivial
    have hk := hk c4148
    refine gh_aload_n gd_Model_wantFor_70 0 rfl (by decide) ?_
    refine gf_63_54 gd_Model_wantFor_71 gh_k1421 hF ?_
    refine gh_iload gd_Model_wantFor_74 5 rfl ?_
    refine gh_iload gd_Model_wantFor_76 6 rfl ?_
    refine gh_iload_n gd_Model_wantFor_78 2 rfl ?_
    refine gh_iload gd_Model_wantFor_79 7 rfl ?_
    obtain ⟨q4134, hk⟩ := hk
    refine cv_Model_begun (d := d + 1) gd_Model_wantFor_81 gh_k1904 (Nat.le_of_ble_eq_true rfl) (gh_C.pe (e_Model_begun (d + 1) v5 v6 v2 v7 q4134) ?_)
    obtain ⟨q4135, hk⟩ := hk
    have q4136 := hk
    refine la_98 gd_Model_wantFor_84 hF q4135 q4136 rfl ?_
    refine gh_zeq (tgt := 122) gd_Model_wantFor_85 (by decide) (fun c4149 => ?_) (fun c4149 => ?_)
    · have hz : True := trivial
      exact k4137 (Or.inr c4149)
    · have hz : True := trivial
      exact k4138 (fun z => z.elim (fun w => w c4148) c4149)
  · have hz : True := trivial
    exact k4137 (Or.inl c4148)
theorem b_Model_wantFor_54 {E : gh_E} {v1 : Int} {v2 : Int} {v3 : Int} {v4 : Int} {v5 : Int} {v6 : Int} {K39 : Int → gh_M → Prop} {Q : Int → gh_M → Prop} {K54 : Int → gh_M → Prop} (d : Nat) (hK39 : ∀ (v6 : Int) (m : gh_M), gh_F m → K39 v6 m → gh_T E (gh_yModel_wantFor.cls, prog_14_method_95_code, 9, false, 9) (d + 2) 39 [(0, 2, 63), (1, 0, v1), (2, 0, v2), (3, 0, v3), (4, 0, v4), (5, 0, v5), (6, 0, v6)] [] m (fun r m1 => gh_F m1 ∧ Q r m1)) (hK : ∀ (v7 : Int) (m : gh_M), gh_F m → K54 v7 m → gh_T E (gh_yModel_wantFor.cls, prog_14_method_95_code, 9, false, 9) (d + 2) 54 [(0, 2, 63), (1, 0, v1), (2, 0, v2), (3, 0, v3), (4, 0, v4), (5, 0, v5), (6, 0, v6), (7, 0, v7)] [] m (fun r m1 => gh_F m1 ∧ Q r m1)) (v7 : Int) (m : gh_M) (hF : gh_F m) (h : f_Model_wantFor_54 v1 v2 v3 v4 v5 v6 K39 K54 v7 m) : gh_T E (gh_yModel_wantFor.cls, prog_14_method_95_code, 9, false, 9) (d + 2) 54 [(0, 2, 63), (1, 0, v1), (2, 0, v2), (3, 0, v3), (4, 0, v4), (5, 0, v5), (6, 0, v6), (7, 0, v7)] [] m (fun r m1 => gh_F m1 ∧ Q r m1) := by
  have hK54 := hK
  unfold f_Model_wantFor_54 at h
  refine gh_iload gd_Model_wantFor_54 7 rfl ?_
  refine gh_iload_n gd_Model_wantFor_56 3 rfl ?_
  obtain ⟨hA, hB⟩ := h
  refine gh_jgt (tgt := 128) gd_Model_wantFor_57 (by decide) (fun c4132 => ?_) (fun c4132 => ?_)
  · have h := hA c4132
    refine gh_iload gd_Model_wantFor_60 7 rfl ?_
    refine gh_istore (L2 := [(8, 0, v7), (0, 2, 63), (1, 0, v1), (2, 0, v2), (3, 0, v3), (4, 0, v4), (5, 0, v5), (6, 0, v6), (7, 0, v7)]) gd_Model_wantFor_62 (by decide) rfl ?_
    refine gh_pick (L2 := [(0, 2, 63), (1, 0, v1), (2, 0, v2), (3, 0, v3), (4, 0, v4), (5, 0, v5), (6, 0, v6), (7, 0, v7), (8, 0, v7)]) [1, 2, 3, 4, 5, 6, 7, 8, 0] rfl ?_
    exact gh_M1_sound (T := fun v8 m => gh_T E (gh_yModel_wantFor.cls, prog_14_method_95_code, 9, false, 9) (d + 2) 64 [(0, 2, 63), (1, 0, v1), (2, 0, v2), (3, 0, v3), (4, 0, v4), (5, 0, v5), (6, 0, v6), (7, 0, v7), (8, 0, v8)] [] m (fun r m1 => gh_F m1 ∧ Q r m1)) (fun _ m => gh_F m) (fun K64 v8 m hK hF h => b_Model_wantFor_64 d hK54 hK v8 m hF h) v7 m hF h
  · have h := hB c4132
    obtain ⟨q4150, h⟩ := h
    refine gh_iinc (L2 := [(6, 0, v6 + 1), (0, 2, 63), (1, 0, v1), (2, 0, v2), (3, 0, v3), (4, 0, v4), (5, 0, v5), (7, 0, v7)]) gd_Model_wantFor_128 6 rfl q4150 (by decide) rfl ?_
    refine gh_goto (tgt := 39) gd_Model_wantFor_131 (by decide) ?_
    refine gh_pick (L2 := [(0, 2, 63), (1, 0, v1), (2, 0, v2), (3, 0, v3), (4, 0, v4), (5, 0, v5), (6, 0, v6 + 1)]) [1, 2, 3, 4, 5, 6, 0] rfl ?_
    exact hK39 (v6 + 1) m hF h
theorem b_Model_wantFor_39 {E : gh_E} {v1 : Int} {v2 : Int} {v3 : Int} {v4 : Int} {v5 : Int} {K18 : Int → gh_M → Prop} {Q : Int → gh_M → Prop} {K39 : Int → gh_M → Prop} (d : Nat) (hK18 : ∀ (v5 : Int) (m : gh_M), gh_F m → K18 v5 m → gh_T E (gh_yModel_wantFor.cls, prog_14_method_95_code, 9, false, 9) (d + 2) 18 [(0, 2, 63), (1, 0, v1), (2, 0, v2), (3, 0, v3), (4, 0, v4), (5, 0, v5)] [] m (fun r m1 => gh_F m1 ∧ Q r m1)) (hK : ∀ (v6 : Int) (m : gh_M), gh_F m → K39 v6 m → gh_T E (gh_yModel_wantFor.cls, prog_14_method_95_code, 9, false, 9) (d + 2) 39 [(0, 2, 63), (1, 0, v1), (2, 0, v2), (3, 0, v3), (4, 0, v4), (5, 0, v5), (6, 0, v6)] [] m (fun r m1 => gh_F m1 ∧ Q r m1)) (v6 : Int) (m : gh_M) (hF : gh_F m) (h : f_Model_wantFor_39 v1 v2 v3 v4 v5 K18 K39 v6 m) : gh_T E (gh_yModel_wantFor.cls, prog_14_method_95_code, 9, false, 9) (d + 2) 39 [(0, 2, 63), (1, 0, v1), (2, 0, v2), (3, 0, v3), (4, 0, v4), (5, 0, v5), (6, 0, v6)] [] m (fun r m1 => gh_F m1 ∧ Q r m1) := by
  have hK39 := hK
  unfold f_Model_wantFor_39 at h
  refine gh_iload gd_Model_wantFor_39 6 rfl ?_
  refine gh_aload_n gd_Model_wantFor_41 0 rfl (by decide) ?_
  refine gf_63_33 gd_Model_wantFor_42 gh_k1400 hF ?_
  refine gh_iload gd_Model_wantFor_45 5 rfl ?_
  obtain ⟨q4129, h⟩ := h
  obtain ⟨q4130, h⟩ := h
  refine la_80 gd_Model_wantFor_47 hF q4129 q4130 rfl ?_
  obtain ⟨hA, hB⟩ := h
  refine gh_jge (tgt := 134) gd_Model_wantFor_48 (by decide) (fun c4131 => ?_) (fun c4131 => ?_)
  · have h := hA c4131
    refine gh_iload_n gd_Model_wantFor_51 2 rfl ?_
    refine gh_istore (L2 := [(7, 0, v2), (0, 2, 63), (1, 0, v1), (2, 0, v2), (3, 0, v3), (4, 0, v4), (5, 0, v5), (6, 0, v6)]) gd_Model_wantFor_52 (by decide) rfl ?_
    refine gh_pick (L2 := [(0, 2, 63), (1, 0, v1), (2, 0, v2), (3, 0, v3), (4, 0, v4), (5, 0, v5), (6, 0, v6), (7, 0, v2)]) [1, 2, 3, 4, 5, 6, 7, 0] rfl ?_
    exact gh_M1_sound (T := fun v7 m => gh_T E (gh_yModel_wantFor.cls, prog_14_method_95_code, 9, false, 9) (d + 2) 54 [(0, 2, 63), (1, 0, v1), (2, 0, v2), (3, 0, v3), (4, 0, v4), (5, 0, v5), (6, 0, v6), (7, 0, v7)] [] m (fun r m1 => gh_F m1 ∧ Q r m1)) (fun _ m => gh_F m) (fun K54 v7 m hK hF h => b_Model_wantFor_54 d hK39 hK v7 m hF h) v2 m hF h
  · have h := hB c4131
    obtain ⟨q4151, h⟩ := h
    refine gh_iinc (L2 := [(5, 0, v5 + 1), (0, 2, 63), (1, 0, v1), (2, 0, v2), (3, 0, v3), (4, 0, v4), (6, 0, v6)]) gd_Model_wantFor_134 5 rfl q4151 (by decide) rfl ?_
    refine gh_goto (tgt := 18) gd_Model_wantFor_137 (by decide) ?_
    refine gh_pick (L2 := [(0, 2, 63), (1, 0, v1), (2, 0, v2), (3, 0, v3), (4, 0, v4), (5, 0, v5 + 1)]) [1, 2, 3, 4, 5, 0] rfl ?_
    exact hK18 (v5 + 1) m hF h
theorem b_Model_wantFor_18 {E : gh_E} {v1 : Int} {v2 : Int} {v3 : Int} {v4 : Int} {Q : Int → gh_M → Prop} {K18 : Int → gh_M → Prop} (d : Nat) (hK : ∀ (v5 : Int) (m : gh_M), gh_F m → K18 v5 m → gh_T E (gh_yModel_wantFor.cls, prog_14_method_95_code, 9, false, 9) (d + 2) 18 [(0, 2, 63), (1, 0, v1), (2, 0, v2), (3, 0, v3), (4, 0, v4), (5, 0, v5)] [] m (fun r m1 => gh_F m1 ∧ Q r m1)) (v5 : Int) (m : gh_M) (hF : gh_F m) (h : f_Model_wantFor_18 v1 v2 v3 v4 Q K18 v5 m) : gh_T E (gh_yModel_wantFor.cls, prog_14_method_95_code, 9, false, 9) (d + 2) 18 [(0, 2, 63), (1, 0, v1), (2, 0, v2), (3, 0, v3), (4, 0, v4), (5, 0, v5)] [] m (fun r m1 => gh_F m1 ∧ Q r m1) := by
  have hK18 := hK
  unfold f_Model_wantFor_18 at h
  refine gh_iload gd_Model_wantFor_18 5 rfl ?_
  refine gh_aload_n gd_Model_wantFor_20 0 rfl (by decide) ?_
  refine gf_63_30 gd_Model_wantFor_21 gh_k1397 hF ?_
  refine gh_iload_n gd_Model_wantFor_24 1 rfl ?_
  obtain ⟨q4123, h⟩ := h
  obtain ⟨q4124, h⟩ := h
  refine la_77 gd_Model_wantFor_25 hF q4123 q4124 rfl ?_
  refine gh_aload_n gd_Model_wantFor_26 0 rfl (by decide) ?_
  refine gf_63_31 gd_Model_wantFor_27 gh_k1398 hF ?_
  refine gh_iload_n gd_Model_wantFor_30 1 rfl ?_
  obtain ⟨q4125, h⟩ := h
  obtain ⟨q4126, h⟩ := h
  refine la_78 gd_Model_wantFor_31 hF q4125 q4126 rfl ?_
  obtain ⟨q4127, h⟩ := h
  refine gh_iadd gd_Model_wantFor_32 q4127 ?_
  obtain ⟨hA, hB⟩ := h
  refine gh_jge (tgt := 140) gd_Model_wantFor_33 (by decide) (fun c4128 => ?_) (fun c4128 => ?_)
  · have h := hA c4128
    refine gh_iconst gd_Model_wantFor_36 (gh_r0 rfl) ?_
    refine gh_istore (L2 := [(6, 0, 0), (0, 2, 63), (1, 0, v1), (2, 0, v2), (3, 0, v3), (4, 0, v4), (5, 0, v5)]) gd_Model_wantFor_37 (by decide) rfl ?_
    refine gh_pick (L2 := [(0, 2, 63), (1, 0, v1), (2, 0, v2), (3, 0, v3), (4, 0, v4), (5, 0, v5), (6, 0, 0)]) [1, 2, 3, 4, 5, 6, 0] rfl ?_
    exact gh_M1_sound (T := fun v6 m => gh_T E (gh_yModel_wantFor.cls, prog_14_method_95_code, 9, false, 9) (d + 2) 39 [(0, 2, 63), (1, 0, v1), (2, 0, v2), (3, 0, v3), (4, 0, v4), (5, 0, v5), (6, 0, v6)] [] m (fun r m1 => gh_F m1 ∧ Q r m1)) (fun _ m => gh_F m) (fun K39 v6 m hK hF h => b_Model_wantFor_39 d hK18 hK v6 m hF h) 0 m hF h
  · have h := hB c4128
    exact gh_ret9 rfl gd_Model_wantFor_140 ⟨hF, h⟩
theorem s_Model_wantFor {E : gh_E} {m : gh_M} {Q : Int → gh_M → Prop} (d : Nat) (v1 : Int) (v2 : Int) (v3 : Int) (v4 : Int) (hF : gh_F m) (h : w_Model_wantFor v1 v2 v3 v4 m Q) : gh_C E gh_yModel_wantFor prog_14_method_95_code 9 none 9 (d + 2) [(2, 63), (0, v1), (0, v2), (0, v3), (0, v4)] m (fun r m1 => gh_F m1 ∧ Q r m1) := by
  refine gh_enter2 (L := [(0, 2, 63), (1, 0, v1), (2, 0, v2), (3, 0, v3), (4, 0, v4)]) (by decide +kernel) gh_rt9 (Nat.le_of_ble_eq_true rfl) rfl rfl ?_
  unfold w_Model_wantFor at h
  refine gh_aload_n gd_Model_wantFor_0 0 rfl (by decide) ?_
  refine gh_dup gd_Model_wantFor_1 (by decide) ?_
  refine gf_63_64 gd_Model_wantFor_2 gh_k1431 hF rfl ?_
  refine gh_iconst gd_Model_wantFor_5 (gh_r0 rfl) ?_
  obtain ⟨q4120, h⟩ := h
  refine gh_iadd gd_Model_wantFor_6 q4120 ?_
  refine pf_63_64 gd_Model_wantFor_7 gh_k1431 hF (fun hF => ?_)
  refine gh_aload_n gd_Model_wantFor_10 0 rfl (by decide) ?_
  refine gf_63_30 gd_Model_wantFor_11 gh_k1397 hF ?_
  refine gh_iload_n gd_Model_wantFor_14 1 rfl ?_
  obtain ⟨q4121, h⟩ := h
  obtain ⟨q4122, h⟩ := h
  refine la_77 gd_Model_wantFor_15 hF q4121 q4122 (gh_u_a (by decide)) ?_
  refine gh_name (fun v5 hn => ?_)
  have h := h v5 hn
  refine gh_istore (L2 := [(5, 0, v5), (0, 2, 63), (1, 0, v1), (2, 0, v2), (3, 0, v3), (4, 0, v4)]) gd_Model_wantFor_16 (by decide) rfl ?_
  refine gh_pick (L2 := [(0, 2, 63), (1, 0, v1), (2, 0, v2), (3, 0, v3), (4, 0, v4), (5, 0, v5)]) [1, 2, 3, 4, 5, 0] rfl ?_
  exact gh_M1_sound (T := fun v5 m => gh_T E (gh_yModel_wantFor.cls, prog_14_method_95_code, 9, false, 9) (d + 2) 18 [(0, 2, 63), (1, 0, v1), (2, 0, v2), (3, 0, v3), (4, 0, v4), (5, 0, v5)] [] m (fun r m1 => gh_F m1 ∧ Q r m1)) (fun _ m => gh_F m) (fun K18 v5 m hK hF h => b_Model_wantFor_18 d hK v5 m hF h) v5 (gh_u m 63 64 ((m 63 64) + 1)) hF h
def w_Model_countOf (v1 : Int) (v2 : Int) (v3 : Int) (v4 : Int) (v5 : Int) (v6 : Int) (m : gh_M) (Q : Int → Prop) : Prop := ((v1 ≤ 0 → w_Model_keyWithin v1 v2 v3 v4 v5 v6 m (fun r4153 => ((¬ (r4153 < 0) → (0 ≤ r4153 ∧ r4153 < 165888))) ∧ Q (if r4153 < 0 then 0 else (m 105 r4153)))) ∧ (¬ (v1 ≤ 0) → k_Model_partMakes v1 v2 v3 m ∧ Q (if (¬ ((x_Model_partMakes v1 v2 v3 m) = 0)) then (1:Int) else 0)))
theorem s_Model_countOf {E : gh_E} {m : gh_M} {Q : Int → Prop} (d : Nat) (v1 : Int) (v2 : Int) (v3 : Int) (v4 : Int) (v5 : Int) (v6 : Int) (hF : gh_F m) (h : w_Model_countOf v1 v2 v3 v4 v5 v6 m Q) : gh_C E gh_yModel_countOf prog_14_method_92_code 8 (some .long) 1 (d + 2) [(2, 63), (0, v1), (0, v2), (0, v3), (0, v4), (0, v5), (0, v6)] m (fun r m1 => m1 = m ∧ Q r) := by
  refine gh_enter2 (L := [(0, 2, 63), (1, 0, v1), (2, 0, v2), (3, 0, v3), (4, 0, v4), (5, 0, v5), (6, 0, v6)]) (by decide +kernel) gh_rt1 (Nat.le_of_ble_eq_true rfl) rfl rfl ?_
  unfold w_Model_countOf at h
  refine gh_iload_n gd_Model_countOf_0 1 rfl ?_
  obtain ⟨hA, hB⟩ := h
  refine gh_zle (tgt := 20) gd_Model_countOf_1 (by decide) (fun c4152 => ?_) (fun c4152 => ?_)
  · have h := hA c4152
    refine gh_aload_n gd_Model_countOf_20 0 rfl (by decide) ?_
    refine gh_iload_n gd_Model_countOf_21 1 rfl ?_
    refine gh_iload_n gd_Model_countOf_22 2 rfl ?_
    refine gh_iload_n gd_Model_countOf_23 3 rfl ?_
    refine gh_iload gd_Model_countOf_24 4 rfl ?_
    refine gh_iload gd_Model_countOf_26 5 rfl ?_
    refine gh_iload gd_Model_countOf_28 6 rfl ?_
    refine cv_Model_keyWithin (d := d + 1) gd_Model_countOf_30 gh_k1985 hF (Nat.le_of_ble_eq_true rfl) (gh_C.pw (s_Model_keyWithin d v1 v2 v3 v4 v5 v6 hF h) (fun r4153 h => ?_))
    refine gh_istore (L2 := [(7, 0, r4153), (0, 2, 63), (1, 0, v1), (2, 0, v2), (3, 0, v3), (4, 0, v4), (5, 0, v5), (6, 0, v6)]) gd_Model_countOf_33 (by decide) rfl ?_
    refine gh_iload gd_Model_countOf_35 0 rfl ?_
    obtain ⟨hk, h⟩ := h
    have k4157 : ∀ x4158 : Int, x4158 = (if r4153 < 0 then 0 else (m 105 r4153)) → gh_T E (gh_yModel_countOf.cls, prog_14_method_92_code, 8, false, 1) (d + 2) 51 [(7, 0, r4153), (0, 2, 63), (1, 0, v1), (2, 0, v2), (3, 0, v3), (4, 0, v4), (5, 0, v5), (6, 0, v6)] [(1, x4158)] m (fun r m1 => m1 = m ∧ Q r) := by
      rintro _ rfl
      exact gh_ret1 rfl gd_Model_countOf_51 ⟨rfl, h⟩
    refine gh_zge (tgt := 44) gd_Model_countOf_37 (by decide) (fun c4159 => ?_) (fun c4159 => ?_)
    · have hz : True := trivial
      refine gh_lconst (n := 0) gd_Model_countOf_40 (by decide) (gh_r1 rfl) ?_
      refine gh_goto (tgt := 51) gd_Model_countOf_41 (by decide) ?_
      exact k4157 _ (by rw [if_pos c4159])
    · have hz : True := trivial
      have hk := hk c4159
      refine gh_aload_n gd_Model_countOf_44 1 rfl (by decide) ?_
      refine gf_63_62 gd_Model_countOf_45 gh_k1429 hF ?_
      refine gh_iload gd_Model_countOf_48 0 rfl ?_
      obtain ⟨q4155, hk⟩ := hk
      have q4156 := hk
      refine la_105 gd_Model_countOf_50 hF q4155 q4156 rfl ?_
      exact k4157 _ (by rw [if_neg c4159])
  · have h := hB c4152
    refine gh_aload_n gd_Model_countOf_4 0 rfl (by decide) ?_
    refine gh_iload_n gd_Model_countOf_5 1 rfl ?_
    refine gh_iload_n gd_Model_countOf_6 2 rfl ?_
    refine gh_iload_n gd_Model_countOf_7 3 rfl ?_
    obtain ⟨q4160, h⟩ := h
    refine cv_Model_partMakes (d := d + 1) gd_Model_countOf_8 gh_k1907 hF (Nat.le_of_ble_eq_true rfl) (gh_C.pe (e_Model_partMakes (d + 1) v1 v2 v3 hF q4160) ?_)
    have k4161 : ∀ x4162 : Int, x4162 = (if (¬ ((x_Model_partMakes v1 v2 v3 m) = 0)) then (1:Int) else 0) → gh_T E (gh_yModel_countOf.cls, prog_14_method_92_code, 8, false, 1) (d + 2) 19 [(0, 2, 63), (1, 0, v1), (2, 0, v2), (3, 0, v3), (4, 0, v4), (5, 0, v5), (6, 0, v6)] [(1, x4162)] m (fun r m1 => m1 = m ∧ Q r) := by
      rintro _ rfl
      exact gh_ret1 rfl gd_Model_countOf_19 ⟨rfl, h⟩
    refine gh_zeq (tgt := 18) gd_Model_countOf_11 (by decide) (fun c4163 => ?_) (fun c4163 => ?_)
    · have hz : True := trivial
      refine gh_lconst (n := 0) gd_Model_countOf_18 (by decide) (gh_r1 rfl) ?_
      exact k4161 _ (if_neg (c := (¬ ((x_Model_partMakes v1 v2 v3 m) = 0))) (not_not_intro c4163)).symm
    · have hz : True := trivial
      refine gh_lconst (n := 1) gd_Model_countOf_14 (by decide) (gh_r1 rfl) ?_
      refine gh_goto (tgt := 19) gd_Model_countOf_15 (by decide) ?_
      exact k4161 _ (if_pos (c := (¬ ((x_Model_partMakes v1 v2 v3 m) = 0))) c4163).symm
def f_Model_layWays_75 (v1 : Int) (v2 : Int) (v3 : Int) (v4 : Int) (v5 : Int) (v6 : Int) (K62 : Int → gh_M → Prop) (m : gh_M) (K75 : Int → Int → Prop) (v7 : Int) (v9 : Int) : Prop := ((v9 ≤ v3 → gh_i (9 * v5) ∧ gh_i ((9 * v5) + 9) ∧ gh_i (((9 * v5) + 9) + v9) ∧ 0 ≤ ((9 * v5) + 9) + v9 ∧ (((9 * v5) + 9) + v9) < 45 ∧ ∀ v10 : Int, v10 = m 108 (((9 * v5) + 9) + v9) → ∃ J144 : Int → Prop, (∀ (y0 : Int), J144 y0 → gh_i (v9 + 1) ∧ K75 y0 (v9 + 1)) ∧ ((v10 = 0 → J144 v7) ∧ (¬ (v10 = 0) → gh_i (4 * v1) ∧ gh_i ((4 * v1) + v5) ∧ 0 ≤ (4 * v1) + v5 ∧ ((4 * v1) + v5) < 80 ∧ w_Model_countOf (m 81 ((4 * v1) + v5)) v6 v9 v2 v3 v4 m (fun r4192 => k_Model_times r4192 v10 ∧ k_Model_plus v7 (x_Model_times r4192 v10) ∧ J144 (x_Model_plus v7 (x_Model_times r4192 v10)))))) ∧ (¬ (v9 ≤ v3) → gh_i (9 * v5) ∧ gh_i ((9 * v5) + v6) ∧ 0 ≤ (9 * v5) + v6 ∧ ((9 * v5) + v6) < 45 ∧ gh_i (v6 + 1) ∧ K62 (v6 + 1) (gh_u m 108 ((9 * v5) + v6) v7)))
def f_Model_layWays_62 (v1 : Int) (v2 : Int) (v3 : Int) (v4 : Int) (v5 : Int) (K54 : Int → gh_M → Prop) (K62 : Int → gh_M → Prop) (v6 : Int) (m : gh_M) : Prop := ((v6 ≤ v3 → gh_L2 (fun K75 v7 v9 => f_Model_layWays_75 v1 v2 v3 v4 v5 v6 K62 m K75 v7 v9) 0 v6) ∧ (¬ (v6 ≤ v3) → gh_i (v5 + (-1)) ∧ K54 (v5 + (-1)) m))
def f_Model_layWays_54 (v1 : Int) (v2 : Int) (v3 : Int) (v4 : Int) (Q : Int → gh_M → Prop) (K54 : Int → gh_M → Prop) (v5 : Int) (m : gh_M) : Prop := ((v5 < 0 → Q 0 m) ∧ (¬ (v5 < 0) → gh_M1 (fun K62 v6 m => f_Model_layWays_62 v1 v2 v3 v4 v5 K54 K62 v6 m) v2 m))
def f_Model_layWays_3 (v1 : Int) (v2 : Int) (v3 : Int) (v4 : Int) (Q : Int → gh_M → Prop) (K3 : Int → gh_M → Prop) (v5 : Int) (m : gh_M) : Prop := ((v5 < 45 → 0 ≤ v1 ∧ v1 < 20 ∧ gh_i (9 * (m 80 v1)) ∧ gh_i ((9 * (m 80 v1)) + v3) ∧ 0 ≤ v5 ∧ v5 < 45 ∧ gh_i (v5 + 1) ∧ K3 (v5 + 1) (gh_u m 108 v5 (if (v5 = ((9 * (m 80 v1)) + v3)) then (1:Int) else 0))) ∧ (¬ (v5 < 45) → 0 ≤ v1 ∧ v1 < 20 ∧ gh_i ((m 80 v1) - 1) ∧ ∀ v5' : Int, v5' = (m 80 v1) - 1 → gh_M1 (fun K54 v5 m => f_Model_layWays_54 v1 v2 v3 v4 Q K54 v5 m) v5' m))
def w_Model_layWays (v1 : Int) (v2 : Int) (v3 : Int) (v4 : Int) (m : gh_M) (Q : Int → gh_M → Prop) : Prop := gh_M1 (fun K3 v5 m => f_Model_layWays_3 v1 v2 v3 v4 Q K3 v5 m) 0 m
theorem b_Model_layWays_75 {E : gh_E} {v1 : Int} {v2 : Int} {v3 : Int} {v4 : Int} {v5 : Int} {v6 : Int} {K62 : Int → gh_M → Prop} {Q : Int → gh_M → Prop} {K75 : Int → Int → Prop} (d : Nat) {m : gh_M} (hK62 : ∀ (v6 : Int) (m : gh_M), gh_F m → K62 v6 m → gh_T E (gh_yModel_layWays.cls, prog_14_method_93_code, 12, false, 9) (d + 3) 62 [(0, 2, 63), (1, 0, v1), (2, 0, v2), (3, 0, v3), (4, 0, v4), (5, 0, v5), (6, 0, v6)] [] m (fun r m1 => gh_F m1 ∧ Q r m1)) (hK : ∀ (v7 : Int) (v9 : Int), gh_F m → K75 v7 v9 → gh_T E (gh_yModel_layWays.cls, prog_14_method_93_code, 12, false, 9) (d + 3) 75 [(0, 2, 63), (1, 0, v1), (2, 0, v2), (3, 0, v3), (4, 0, v4), (5, 0, v5), (6, 0, v6), (7, 1, v7), (9, 0, v9)] [] m (fun r m1 => gh_F m1 ∧ Q r m1)) (v7 : Int) (v9 : Int) (hF : gh_F m) (h : f_Model_layWays_75 v1 v2 v3 v4 v5 v6 K62 m K75 v7 v9) : gh_T E (gh_yModel_layWays.cls, prog_14_method_93_code, 12, false, 9) (d + 3) 75 [(0, 2, 63), (1, 0, v1), (2, 0, v2), (3, 0, v3), (4, 0, v4), (5, 0, v5), (6, 0, v6), (7, 1, v7), (9, 0, v9)] [] m (fun r m1 => gh_F m1 ∧ Q r m1) := by
  have hK75 := hK
  unfold f_Model_layWays_75 at h
  refine gh_iload gd_Model_layWays_75 8 rfl ?_
  refine gh_iload_n gd_Model_layWays_77 3 rfl ?_
  obtain ⟨hA, hB⟩ := h
  refine gh_jgt (tgt := 152) gd_Model_layWays_78 (by decide) (fun c4180 => ?_) (fun c4180 => ?_)
  · have h := hA c4180
    refine gh_aload_n gd_Model_layWays_81 0 rfl (by decide) ?_
    refine gf_63_67 gd_Model_layWays_82 gh_k1434 hF ?_
    refine gh_bipush gd_Model_layWays_85 (by decide) (gh_r0 rfl) ?_
    refine gh_iload gd_Model_layWays_87 5 rfl ?_
    obtain ⟨q4181, h⟩ := h
    refine gh_imul gd_Model_layWays_89 q4181 ?_
    refine gh_bipush gd_Model_layWays_90 (by decide) (gh_r0 rfl) ?_
    obtain ⟨q4182, h⟩ := h
    refine gh_iadd gd_Model_layWays_92 q4182 ?_
    refine gh_iload gd_Model_layWays_93 8 rfl ?_
    obtain ⟨q4183, h⟩ := h
    refine gh_iadd gd_Model_layWays_95 q4183 ?_
    obtain ⟨q4184, h⟩ := h
    obtain ⟨q4185, h⟩ := h
    refine la_108 gd_Model_layWays_96 hF q4184 q4185 rfl ?_
    refine gh_name (fun v10 hn => ?_)
    have h := h v10 hn
    refine gh_lstore (L2 := [(10, 1, v10), (0, 2, 63), (1, 0, v1), (2, 0, v2), (3, 0, v3), (4, 0, v4), (5, 0, v5), (6, 0, v6), (7, 1, v7), (9, 0, v9)]) gd_Model_layWays_97 (by decide) rfl ?_
    refine gh_lload gd_Model_layWays_99 0 rfl ?_
    refine gh_lconst (n := 0) gd_Model_layWays_101 (by decide) (gh_r1 rfl) ?_
    refine gh_lcmp gd_Model_layWays_102 ?_
    obtain ⟨J144, hJ144, h⟩ := h
    have hJ144 : ∀ (y0 : Int), gh_F m → J144 y0 → gh_T E (gh_yModel_layWays.cls, prog_14_method_93_code, 12, false, 9) (d + 3) 144 [(0, 2, 63), (1, 0, v1), (2, 0, v2), (3, 0, v3), (4, 0, v4), (5, 0, v5), (6, 0, v6), (9, 0, v9)] [(1, y0)] m (fun r m1 => gh_F m1 ∧ Q r m1) := by
      intro y0 hF hj
      have h := hJ144 y0 hj
      refine gh_lstore (L2 := [(7, 1, y0), (0, 2, 63), (1, 0, v1), (2, 0, v2), (3, 0, v3), (4, 0, v4), (5, 0, v5), (6, 0, v6), (9, 0, v9)]) gd_Model_layWays_144 (by decide) rfl ?_
      obtain ⟨q4186, h⟩ := h
      refine gh_iinc (L2 := [(9, 0, v9 + 1), (7, 1, y0), (0, 2, 63), (1, 0, v1), (2, 0, v2), (3, 0, v3), (4, 0, v4), (5, 0, v5), (6, 0, v6)]) gd_Model_layWays_146 8 rfl q4186 (by decide) rfl ?_
      refine gh_goto (tgt := 75) gd_Model_layWays_149 (by decide) ?_
      refine gh_pick (L2 := [(0, 2, 63), (1, 0, v1), (2, 0, v2), (3, 0, v3), (4, 0, v4), (5, 0, v5), (6, 0, v6), (7, 1, y0), (9, 0, v9 + 1)]) [2, 3, 4, 5, 6, 7, 8, 1, 0] rfl ?_
      exact hK75 y0 (v9 + 1) hF h
    obtain ⟨hA, hB⟩ := h
    refine gh_cne (tgt := 111) gd_Model_layWays_103 (by decide) (fun c4187 => ?_) (fun c4187 => ?_)
    · have h := hA c4187
      refine gh_lload gd_Model_layWays_106 8 rfl ?_
      refine gh_goto (tgt := 144) gd_Model_layWays_108 (by decide) ?_
      refine gh_pick (L2 := [(0, 2, 63), (1, 0, v1), (2, 0, v2), (3, 0, v3), (4, 0, v4), (5, 0, v5), (6, 0, v6), (9, 0, v9)]) [1, 2, 3, 4, 5, 6, 7, 9] rfl ?_
      exact hJ144 v7 hF h
    · have h := hB c4187
      refine gh_lload gd_Model_layWays_111 8 rfl ?_
      refine gh_aload_n gd_Model_layWays_113 1 rfl (by decide) ?_
      refine gh_aload_n gd_Model_layWays_114 1 rfl (by decide) ?_
      refine gf_63_34 gd_Model_layWays_115 gh_k1401 hF ?_
      refine gh_iconst gd_Model_layWays_118 (gh_r0 rfl) ?_
      refine gh_iload_n gd_Model_layWays_119 2 rfl ?_
      obtain ⟨q4188, h⟩ := h
      refine gh_imul gd_Model_layWays_120 q4188 ?_
      refine gh_iload gd_Model_layWays_121 6 rfl ?_
      obtain ⟨q4189, h⟩ := h
      refine gh_iadd gd_Model_layWays_123 q4189 ?_
      obtain ⟨q4190, h⟩ := h
      obtain ⟨q4191, h⟩ := h
      refine la_81 gd_Model_layWays_124 hF q4190 q4191 rfl ?_
      refine gh_iload gd_Model_layWays_125 7 rfl ?_
      refine gh_iload gd_Model_layWays_127 9 rfl ?_
      refine gh_iload_n gd_Model_layWays_129 3 rfl ?_
      refine gh_iload_n gd_Model_layWays_130 4 rfl ?_
      refine gh_iload gd_Model_layWays_131 5 rfl ?_
      refine cv_Model_countOf (d := d + 2) gd_Model_layWays_133 gh_k1993 hF (Nat.le_of_ble_eq_true rfl) (gh_C.pw (s_Model_countOf d (m 81 ((4 * v1) + v5)) v6 v9 v2 v3 v4 hF h) (fun r4192 h => ?_))
      refine gh_lload gd_Model_layWays_136 0 rfl ?_
      obtain ⟨q4194, h⟩ := h
      refine cv_Model_times (d := d + 2) gd_Model_layWays_138 gh_k1997 (Nat.le_of_ble_eq_true rfl) (gh_C.pe (e_Model_times (d + 2) r4192 v10 q4194) ?_)
      obtain ⟨q4195, h⟩ := h
      refine cv_Model_plus (d := d + 2) gd_Model_layWays_141 gh_k2002 (Nat.le_of_ble_eq_true rfl) (gh_C.pe (e_Model_plus (d + 2) v7 (x_Model_times r4192 v10) q4195) ?_)
      refine gh_pick (L2 := [(0, 2, 63), (1, 0, v1), (2, 0, v2), (3, 0, v3), (4, 0, v4), (5, 0, v5), (6, 0, v6), (9, 0, v9)]) [1, 2, 3, 4, 5, 6, 7, 9] rfl ?_
      exact hJ144 (x_Model_plus v7 (x_Model_times r4192 v10)) hF h
  · have h := hB c4180
    refine gh_aload_n gd_Model_layWays_152 0 rfl (by decide) ?_
    refine gf_63_67 gd_Model_layWays_153 gh_k1434 hF ?_
    refine gh_bipush gd_Model_layWays_156 (by decide) (gh_r0 rfl) ?_
    refine gh_iload gd_Model_layWays_158 5 rfl ?_
    obtain ⟨q4196, h⟩ := h
    refine gh_imul gd_Model_layWays_160 q4196 ?_
    refine gh_iload gd_Model_layWays_161 6 rfl ?_
    obtain ⟨q4197, h⟩ := h
    refine gh_iadd gd_Model_layWays_163 q4197 ?_
    refine gh_lload gd_Model_layWays_164 7 rfl ?_
    obtain ⟨q4198, h⟩ := h
    obtain ⟨q4199, h⟩ := h
    refine sa_108 gd_Model_layWays_166 hF q4198 q4199 (fun hF => ?_)
    obtain ⟨q4200, h⟩ := h
    refine gh_iinc (L2 := [(6, 0, v6 + 1), (0, 2, 63), (1, 0, v1), (2, 0, v2), (3, 0, v3), (4, 0, v4), (5, 0, v5), (7, 1, v7), (9, 0, v9)]) gd_Model_layWays_167 6 rfl q4200 (by decide) rfl ?_
    refine gh_goto (tgt := 62) gd_Model_layWays_170 (by decide) ?_
    refine gh_pick (L2 := [(0, 2, 63), (1, 0, v1), (2, 0, v2), (3, 0, v3), (4, 0, v4), (5, 0, v5), (6, 0, v6 + 1)]) [1, 2, 3, 4, 5, 6, 0] rfl ?_
    exact hK62 (v6 + 1) (gh_u m 108 ((9 * v5) + v6) v7) hF h
theorem b_Model_layWays_62 {E : gh_E} {v1 : Int} {v2 : Int} {v3 : Int} {v4 : Int} {v5 : Int} {K54 : Int → gh_M → Prop} {Q : Int → gh_M → Prop} {K62 : Int → gh_M → Prop} (d : Nat) (hK54 : ∀ (v5 : Int) (m : gh_M), gh_F m → K54 v5 m → gh_T E (gh_yModel_layWays.cls, prog_14_method_93_code, 12, false, 9) (d + 3) 54 [(0, 2, 63), (1, 0, v1), (2, 0, v2), (3, 0, v3), (4, 0, v4), (5, 0, v5)] [] m (fun r m1 => gh_F m1 ∧ Q r m1)) (hK : ∀ (v6 : Int) (m : gh_M), gh_F m → K62 v6 m → gh_T E (gh_yModel_layWays.cls, prog_14_method_93_code, 12, false, 9) (d + 3) 62 [(0, 2, 63), (1, 0, v1), (2, 0, v2), (3, 0, v3), (4, 0, v4), (5, 0, v5), (6, 0, v6)] [] m (fun r m1 => gh_F m1 ∧ Q r m1)) (v6 : Int) (m : gh_M) (hF : gh_F m) (h : f_Model_layWays_62 v1 v2 v3 v4 v5 K54 K62 v6 m) : gh_T E (gh_yModel_layWays.cls, prog_14_method_93_code, 12, false, 9) (d + 3) 62 [(0, 2, 63), (1, 0, v1), (2, 0, v2), (3, 0, v3), (4, 0, v4), (5, 0, v5), (6, 0, v6)] [] m (fun r m1 => gh_F m1 ∧ Q r m1) := by
  have hK62 := hK
  unfold f_Model_layWays_62 at h
  refine gh_iload gd_Model_layWays_62 6 rfl ?_
  refine gh_iload_n gd_Model_layWays_64 3 rfl ?_
  obtain ⟨hA, hB⟩ := h
  refine gh_jgt (tgt := 173) gd_Model_layWays_65 (by decide) (fun c4179 => ?_) (fun c4179 => ?_)
  · have h := hA c4179
    refine gh_lconst (n := 0) gd_Model_layWays_68 (by decide) (gh_r1 rfl) ?_
    refine gh_lstore (L2 := [(7, 1, 0), (0, 2, 63), (1, 0, v1), (2, 0, v2), (3, 0, v3), (4, 0, v4), (5, 0, v5), (6, 0, v6)]) gd_Model_layWays_69 (by decide) rfl ?_
    refine gh_iload gd_Model_layWays_71 7 rfl ?_
    refine gh_istore (L2 := [(9, 0, v6), (7, 1, 0), (0, 2, 63), (1, 0, v1), (2, 0, v2), (3, 0, v3), (4, 0, v4), (5, 0, v5), (6, 0, v6)]) gd_Model_layWays_73 (by decide) rfl ?_
    refine gh_pick (L2 := [(0, 2, 63), (1, 0, v1), (2, 0, v2), (3, 0, v3), (4, 0, v4), (5, 0, v5), (6, 0, v6), (7, 1, 0), (9, 0, v6)]) [2, 3, 4, 5, 6, 7, 8, 1, 0] rfl ?_
    exact gh_L2_sound (T := fun v7 v9 => gh_T E (gh_yModel_layWays.cls, prog_14_method_93_code, 12, false, 9) (d + 3) 75 [(0, 2, 63), (1, 0, v1), (2, 0, v2), (3, 0, v3), (4, 0, v4), (5, 0, v5), (6, 0, v6), (7, 1, v7), (9, 0, v9)] [] m (fun r m1 => gh_F m1 ∧ Q r m1)) (fun _ _ => gh_F m) (fun K75 v7 v9 hK hF h => b_Model_layWays_75 d hK62 hK v7 v9 hF h) 0 v6 hF h
  · have h := hB c4179
    obtain ⟨q4201, h⟩ := h
    refine gh_iinc (L2 := [(5, 0, v5 + (-1)), (0, 2, 63), (1, 0, v1), (2, 0, v2), (3, 0, v3), (4, 0, v4), (6, 0, v6)]) gd_Model_layWays_173 5 rfl q4201 (by decide) rfl ?_
    refine gh_goto (tgt := 54) gd_Model_layWays_176 (by decide) ?_
    refine gh_pick (L2 := [(0, 2, 63), (1, 0, v1), (2, 0, v2), (3, 0, v3), (4, 0, v4), (5, 0, v5 + (-1))]) [1, 2, 3, 4, 5, 0] rfl ?_
    exact hK54 (v5 + (-1)) m hF h
theorem b_Model_layWays_54 {E : gh_E} {v1 : Int} {v2 : Int} {v3 : Int} {v4 : Int} {Q : Int → gh_M → Prop} {K54 : Int → gh_M → Prop} (d : Nat) (hK : ∀ (v5 : Int) (m : gh_M), gh_F m → K54 v5 m → gh_T E (gh_yModel_layWays.cls, prog_14_method_93_code, 12, false, 9) (d + 3) 54 [(0, 2, 63), (1, 0, v1), (2, 0, v2), (3, 0, v3), (4, 0, v4), (5, 0, v5)] [] m (fun r m1 => gh_F m1 ∧ Q r m1)) (v5 : Int) (m : gh_M) (hF : gh_F m) (h : f_Model_layWays_54 v1 v2 v3 v4 Q K54 v5 m) : gh_T E (gh_yModel_layWays.cls, prog_14_method_93_code, 12, false, 9) (d + 3) 54 [(0, 2, 63), (1, 0, v1), (2, 0, v2), (3, 0, v3), (4, 0, v4), (5, 0, v5)] [] m (fun r m1 => gh_F m1 ∧ Q r m1) := by
  have hK54 := hK
  unfold f_Model_layWays_54 at h
  refine gh_iload gd_Model_layWays_54 5 rfl ?_
  obtain ⟨hA, hB⟩ := h
  refine gh_zlt (tgt := 179) gd_Model_layWays_56 (by decide) (fun c4178 => ?_) (fun c4178 => ?_)
  · have h := hA c4178
    exact gh_ret9 rfl gd_Model_layWays_179 ⟨hF, h⟩
  · have h := hB c4178
    refine gh_iload_n gd_Model_layWays_59 2 rfl ?_
    refine gh_istore (L2 := [(6, 0, v2), (0, 2, 63), (1, 0, v1), (2, 0, v2), (3, 0, v3), (4, 0, v4), (5, 0, v5)]) gd_Model_layWays_60 (by decide) rfl ?_
    refine gh_pick (L2 := [(0, 2, 63), (1, 0, v1), (2, 0, v2), (3, 0, v3), (4, 0, v4), (5, 0, v5), (6, 0, v2)]) [1, 2, 3, 4, 5, 6, 0] rfl ?_
    exact gh_M1_sound (T := fun v6 m => gh_T E (gh_yModel_layWays.cls, prog_14_method_93_code, 12, false, 9) (d + 3) 62 [(0, 2, 63), (1, 0, v1), (2, 0, v2), (3, 0, v3), (4, 0, v4), (5, 0, v5), (6, 0, v6)] [] m (fun r m1 => gh_F m1 ∧ Q r m1)) (fun _ m => gh_F m) (fun K62 v6 m hK hF h => b_Model_layWays_62 d hK54 hK v6 m hF h) v2 m hF h
theorem b_Model_layWays_3 {E : gh_E} {v1 : Int} {v2 : Int} {v3 : Int} {v4 : Int} {Q : Int → gh_M → Prop} {K3 : Int → gh_M → Prop} (d : Nat) (hK : ∀ (v5 : Int) (m : gh_M), gh_F m → K3 v5 m → gh_T E (gh_yModel_layWays.cls, prog_14_method_93_code, 12, false, 9) (d + 3) 3 [(0, 2, 63), (1, 0, v1), (2, 0, v2), (3, 0, v3), (4, 0, v4), (5, 0, v5)] [] m (fun r m1 => gh_F m1 ∧ Q r m1)) (v5 : Int) (m : gh_M) (hF : gh_F m) (h : f_Model_layWays_3 v1 v2 v3 v4 Q K3 v5 m) : gh_T E (gh_yModel_layWays.cls, prog_14_method_93_code, 12, false, 9) (d + 3) 3 [(0, 2, 63), (1, 0, v1), (2, 0, v2), (3, 0, v3), (4, 0, v4), (5, 0, v5)] [] m (fun r m1 => gh_F m1 ∧ Q r m1) := by
  have hK3 := hK
  unfold f_Model_layWays_3 at h
  refine gh_iload gd_Model_layWays_3 5 rfl ?_
  refine gh_bipush gd_Model_layWays_5 (by decide) (gh_r0 rfl) ?_
  obtain ⟨hA, hB⟩ := h
  refine gh_jge (tgt := 44) gd_Model_layWays_7 (by decide) (fun c4164 => ?_) (fun c4164 => ?_)
  · have h := hA c4164
    refine gh_aload_n gd_Model_layWays_10 0 rfl (by decide) ?_
    refine gf_63_67 gd_Model_layWays_11 gh_k1434 hF ?_
    refine gh_iload gd_Model_layWays_14 5 rfl ?_
    refine gh_iload gd_Model_layWays_16 5 rfl ?_
    refine gh_bipush gd_Model_layWays_18 (by decide) (gh_r0 rfl) ?_
    refine gh_aload_n gd_Model_layWays_20 0 rfl (by decide) ?_
    refine gf_63_33 gd_Model_layWays_21 gh_k1400 hF ?_
    refine gh_iload_n gd_Model_layWays_24 1 rfl ?_
    obtain ⟨q4165, h⟩ := h
    obtain ⟨q4166, h⟩ := h
    refine la_80 gd_Model_layWays_25 hF q4165 q4166 rfl ?_
    obtain ⟨q4167, h⟩ := h
    refine gh_imul gd_Model_layWays_26 q4167 ?_
    refine gh_iload_n gd_Model_layWays_27 3 rfl ?_
    obtain ⟨q4168, h⟩ := h
    refine gh_iadd gd_Model_layWays_28 q4168 ?_
    have k4169 : ∀ x4170 : Int, x4170 = (if (v5 = ((9 * (m 80 v1)) + v3)) then (1:Int) else 0) → gh_T E (gh_yModel_layWays.cls, prog_14_method_93_code, 12, false, 9) (d + 3) 37 [(0, 2, 63), (1, 0, v1), (2, 0, v2), (3, 0, v3), (4, 0, v4), (5, 0, v5)] [(1, x4170), (0, v5), (2, 108)] m (fun r m1 => gh_F m1 ∧ Q r m1) := by
      rintro _ rfl
      obtain ⟨q4171, h⟩ := h
      obtain ⟨q4172, h⟩ := h
      refine sa_108 gd_Model_layWays_37 hF q4171 q4172 (fun hF => ?_)
      obtain ⟨q4173, h⟩ := h
      refine gh_iinc (L2 := [(5, 0, v5 + 1), (0, 2, 63), (1, 0, v1), (2, 0, v2), (3, 0, v3), (4, 0, v4)]) gd_Model_layWays_38 5 rfl q4173 (by decide) rfl ?_
      refine gh_goto (tgt := 3) gd_Model_layWays_41 (by decide) ?_
      refine gh_pick (L2 := [(0, 2, 63), (1, 0, v1), (2, 0, v2), (3, 0, v3), (4, 0, v4), (5, 0, v5 + 1)]) [1, 2, 3, 4, 5, 0] rfl ?_
      exact hK3 (v5 + 1) (gh_u m 108 v5 (if (v5 = ((9 * (m 80 v1)) + v3)) then (1:Int) else 0)) hF h
    refine gh_jne (tgt := 36) gd_Model_layWays_29 (by decide) (fun c4174 => ?_) (fun c4174 => ?_)
    · have hz : True := trivial
      refine gh_lconst (n := 1) gd_Model_layWays_32 (by decide) (gh_r1 rfl) ?_
      refine gh_goto (tgt := 37) gd_Model_layWays_33 (by decide) ?_
      exact k4169 _ (if_pos (c := (v5 = ((9 * (m 80 v1)) + v3))) c4174).symm
    · have hz : True := trivial
      refine gh_lconst (n := 0) gd_Model_layWays_36 (by decide) (gh_r1 rfl) ?_
      exact k4169 _ (if_neg (c := (v5 = ((9 * (m 80 v1)) + v3))) c4174).symm
  · have h := hB c4164
    refine gh_aload_n gd_Model_layWays_44 0 rfl (by decide) ?_
    refine gf_63_33 gd_Model_layWays_45 gh_k1400 hF ?_
    refine gh_iload_n gd_Model_layWays_48 1 rfl ?_
    obtain ⟨q4175, h⟩ := h
    obtain ⟨q4176, h⟩ := h
    refine la_80 gd_Model_layWays_49 hF q4175 q4176 rfl ?_
    refine gh_iconst gd_Model_layWays_50 (gh_r0 rfl) ?_
    obtain ⟨q4177, h⟩ := h
    refine gh_isub gd_Model_layWays_51 q4177 ?_
    refine gh_name (fun v5' hn => ?_)
    have h := h v5' hn
    refine gh_istore (L2 := [(5, 0, v5'), (0, 2, 63), (1, 0, v1), (2, 0, v2), (3, 0, v3), (4, 0, v4)]) gd_Model_layWays_52 (by decide) rfl ?_
    refine gh_pick (L2 := [(0, 2, 63), (1, 0, v1), (2, 0, v2), (3, 0, v3), (4, 0, v4), (5, 0, v5')]) [1, 2, 3, 4, 5, 0] rfl ?_
    exact gh_M1_sound (T := fun v5 m => gh_T E (gh_yModel_layWays.cls, prog_14_method_93_code, 12, false, 9) (d + 3) 54 [(0, 2, 63), (1, 0, v1), (2, 0, v2), (3, 0, v3), (4, 0, v4), (5, 0, v5)] [] m (fun r m1 => gh_F m1 ∧ Q r m1)) (fun _ m => gh_F m) (fun K54 v5 m hK hF h => b_Model_layWays_54 d hK v5 m hF h) v5' m hF h
theorem s_Model_layWays {E : gh_E} {m : gh_M} {Q : Int → gh_M → Prop} (d : Nat) (v1 : Int) (v2 : Int) (v3 : Int) (v4 : Int) (hF : gh_F m) (h : w_Model_layWays v1 v2 v3 v4 m Q) : gh_C E gh_yModel_layWays prog_14_method_93_code 12 none 9 (d + 3) [(2, 63), (0, v1), (0, v2), (0, v3), (0, v4)] m (fun r m1 => gh_F m1 ∧ Q r m1) := by
  refine gh_enter2 (L := [(0, 2, 63), (1, 0, v1), (2, 0, v2), (3, 0, v3), (4, 0, v4)]) (by decide +kernel) gh_rt9 (Nat.le_of_ble_eq_true rfl) rfl rfl ?_
  unfold w_Model_layWays at h
  refine gh_iconst gd_Model_layWays_0 (gh_r0 rfl) ?_
  refine gh_istore (L2 := [(5, 0, 0), (0, 2, 63), (1, 0, v1), (2, 0, v2), (3, 0, v3), (4, 0, v4)]) gd_Model_layWays_1 (by decide) rfl ?_
  refine gh_pick (L2 := [(0, 2, 63), (1, 0, v1), (2, 0, v2), (3, 0, v3), (4, 0, v4), (5, 0, 0)]) [1, 2, 3, 4, 5, 0] rfl ?_
  exact gh_M1_sound (T := fun v5 m => gh_T E (gh_yModel_layWays.cls, prog_14_method_93_code, 12, false, 9) (d + 3) 3 [(0, 2, 63), (1, 0, v1), (2, 0, v2), (3, 0, v3), (4, 0, v4), (5, 0, v5)] [] m (fun r m1 => gh_F m1 ∧ Q r m1)) (fun _ m => gh_F m) (fun K3 v5 m hK hF h => b_Model_layWays_3 d hK v5 m hF h) 0 m hF h
def f_Model_countTrees_211 (v4 : Int) (v5 : Int) (v6 : Int) (v7 : Int) (v8 : Int) (v9 : Int) (J294 : gh_M → Prop) (K211 : Int → Int → gh_M → Prop) (v11 : Int) (v13 : Int) (m : gh_M) : Prop := 0 ≤ v6 ∧ v6 < 8 ∧ 0 ≤ v6 ∧ v6 < 8 ∧ gh_i ((m 77 v6) + (m 78 v6)) ∧ ∃ J275 : Int → gh_M → Prop, (∀ (v11' : Int) (m : gh_M), J275 v11' m → 0 ≤ v5 ∧ v5 < 165888 ∧ gh_i ((m 63 66) - 1) ∧ J294 (gh_u (gh_u m 105 v5 v11') 63 66 ((m 63 66) - 1))) ∧ (((v13 < ((m 77 v6) + (m 78 v6))) → (0 ≤ v5 ∧ v5 < 165888))) ∧ ((((v13 < ((m 77 v6) + (m 78 v6))) ∧ ((m 105 v5) < 0)) → w_Model_layWays v13 v7 v8 v9 m (fun _ m4245 => 0 ≤ v7 ∧ v7 < 45 ∧ k_Model_plus v11 (m4245 108 v7) ∧ ∀ v11' : Int, v11' = x_Model_plus v11 (m4245 108 v7) → gh_i (v13 + 1) ∧ K211 v11' (v13 + 1) m4245)) ∧ (¬ ((v13 < ((m 77 v6) + (m 78 v6))) ∧ ((m 105 v5) < 0)) → J275 v11 m))
def f_Model_countTrees_72 (v4 : Int) (Q : Int → gh_M → Prop) (K72 : gh_M → Prop) (m : gh_M) : Prop := (((m 63 66) ≤ 0 → 0 ≤ v4 ∧ v4 < 165888 ∧ Q (m 105 v4) m) ∧ (¬ ((m 63 66) ≤ 0) → gh_i ((m 63 66) - 1) ∧ 0 ≤ (m 63 66) - 1 ∧ ((m 63 66) - 1) < 60000 ∧ ∀ v5 : Int, v5 = m 107 ((m 63 66) - 1) → 0 ≤ v5 ∧ ∀ v6 : Int, v6 = v5 / 20736 → 0 ≤ v5 ∧ 0 ≤ v5 / 256 ∧ 0 ≤ (v5 / 256) % 81 ∧ ∀ v7 : Int, v7 = ((v5 / 256) % 81) / 9 → 0 ≤ v5 ∧ 0 ≤ v5 / 256 ∧ ∀ v8 : Int, v8 = (v5 / 256) % 9 → 0 ≤ v5 ∧ ∀ v9 : Int, v9 = gh_ior_f (v5 % 256) (gh_ishl_f 1 v6) → ∀ v10 : Int, v10 = m 63 66 → 0 ≤ v5 ∧ v5 < 165888 ∧ ∃ J168 : gh_M → Prop, (∀ (m : gh_M), J168 m → ∃ J294 : gh_M → Prop, (∀ (m : gh_M), J294 m → K72 m) ∧ (((m 63 66) = v10 → 0 ≤ v5 ∧ v5 < 165888 ∧ ((¬ ((m 105 v5) < 0) → (0 ≤ v5 ∧ v5 < 165888))) ∧ ∀ v11 : Int, v11 = (if (m 105 v5) < 0 then 0 else (m 105 v5)) → 0 ≤ v6 ∧ v6 < 8 ∧ ∀ v13 : Int, v13 = m 77 v6 → gh_M2 (fun K211 v11 v13 m => f_Model_countTrees_211 v4 v5 v6 v7 v8 v9 J294 K211 v11 v13 m) v11 v13 m) ∧ (¬ ((m 63 66) = v10) → J294 m))) ∧ (((m 105 v5) < 0 → w_Model_wantFor v6 v7 v8 v9 m (fun _ m4255 => J168 m4255)) ∧ (¬ ((m 105 v5) < 0) → J168 m))))
def f_Model_countTrees_19 (v1 : Int) (v2 : Int) (v3 : Int) (J42 : gh_M → Prop) (K19 : Int → gh_M → Prop) (v4 : Int) (m : gh_M) : Prop := ((v4 < 165888 → 0 ≤ v4 ∧ v4 < 165888 ∧ gh_i (v4 + 1) ∧ K19 (v4 + 1) (gh_u m 105 v4 (-1))) ∧ (¬ (v4 < 165888) → J42 m))
def w_Model_countTrees (v1 : Int) (v2 : Int) (v3 : Int) (m : gh_M) (Q : Int → gh_M → Prop) : Prop := w_Model_lay m (fun _ m4203 => ∃ J42 : gh_M → Prop, (∀ (m : gh_M), J42 m → (gh_i (81 * v1) ∧ ((v2 = v3) → (gh_i ((81 * v1) + 0) ∧ gh_i (256 * ((81 * v1) + 0)) ∧ gh_i ((256 * ((81 * v1) + 0)) + 0))) ∧ (¬ (v2 = v3) → (gh_i (9 * v2) ∧ gh_i ((9 * v2) + v3) ∧ gh_i ((81 * v1) + ((9 * v2) + v3)) ∧ gh_i (256 * ((81 * v1) + ((9 * v2) + v3))) ∧ gh_i ((256 * ((81 * v1) + ((9 * v2) + v3))) + 0)))) ∧ ∀ v4 : Int, v4 = (if v2 = v3 then ((256 * ((81 * v1) + 0)) + 0) else ((256 * ((81 * v1) + ((9 * v2) + v3))) + 0)) → gh_i ((m 63 64) + 1) ∧ w_Model_want v4 (gh_u (gh_u m 63 66 0) 63 64 ((m 63 64) + 1)) (fun _ m4207 => gh_M0 (fun K72 m => f_Model_countTrees_72 v4 Q K72 m) m4207)) ∧ (((m4203 63 61) = 0 → gh_M1 (fun K19 v4 m => f_Model_countTrees_19 v1 v2 v3 J42 K19 v4 m) 0 (gh_u m4203 63 61 1)) ∧ (¬ ((m4203 63 61) = 0) → J42 m4203)))
theorem b_Model_countTrees_211 {E : gh_E} {v4 : Int} {v5 : Int} {v6 : Int} {v7 : Int} {v8 : Int} {v9 : Int} {J294 : gh_M → Prop} {Q : Int → gh_M → Prop} {K211 : Int → Int → gh_M → Prop} (d : Nat) (hJ294 : ∀ (m : gh_M), gh_F m → J294 m → gh_T E (gh_yModel_countTrees.cls, prog_14_method_96_code, 14, false, 1) (d + 4) 294 [(0, 2, 63), (4, 0, v4)] [] m (fun r m1 => gh_F m1 ∧ Q r m1)) (hK : ∀ (v11 : Int) (v13 : Int) (m : gh_M), gh_F m → K211 v11 v13 m → gh_T E (gh_yModel_countTrees.cls, prog_14_method_96_code, 14, false, 1) (d + 4) 211 [(0, 2, 63), (4, 0, v4), (5, 0, v5), (6, 0, v6), (7, 0, v7), (8, 0, v8), (9, 0, v9), (11, 1, v11), (13, 0, v13)] [] m (fun r m1 => gh_F m1 ∧ Q r m1)) (v11 : Int) (v13 : Int) (m : gh_M) (hF : gh_F m) (h : f_Model_countTrees_211 v4 v5 v6 v7 v8 v9 J294 K211 v11 v13 m) : gh_T E (gh_yModel_countTrees.cls, prog_14_method_96_code, 14, false, 1) (d + 4) 211 [(0, 2, 63), (4, 0, v4), (5, 0, v5), (6, 0, v6), (7, 0, v7), (8, 0, v8), (9, 0, v9), (11, 1, v11), (13, 0, v13)] [] m (fun r m1 => gh_F m1 ∧ Q r m1) := by
  have hK211 := hK
  unfold f_Model_countTrees_211 at h
  refine gh_iload gd_Model_countTrees_211 8 rfl ?_
  refine gh_aload_n gd_Model_countTrees_213 0 rfl (by decide) ?_
  refine gf_63_30 gd_Model_countTrees_214 gh_k1397 hF ?_
  refine gh_iload gd_Model_countTrees_217 3 rfl ?_
  obtain ⟨q4232, h⟩ := h
  obtain ⟨q4233, h⟩ := h
  refine la_77 gd_Model_countTrees_219 hF q4232 q4233 rfl ?_
  refine gh_aload_n gd_Model_countTrees_220 0 rfl (by decide) ?_
  refine gf_63_31 gd_Model_countTrees_221 gh_k1398 hF ?_
  refine gh_iload gd_Model_countTrees_224 3 rfl ?_
  obtain ⟨q4234, h⟩ := h
  obtain ⟨q4235, h⟩ := h
  refine la_78 gd_Model_countTrees_226 hF q4234 q4235 rfl ?_
  obtain ⟨q4236, h⟩ := h
  refine gh_iadd gd_Model_countTrees_227 q4236 ?_
  obtain ⟨J275, hJ275, h⟩ := h
  have hJ275 : ∀ (v11' : Int) (m : gh_M), gh_F m → J275 v11' m → gh_T E (gh_yModel_countTrees.cls, prog_14_method_96_code, 14, false, 1) (d + 4) 275 [(0, 2, 63), (4, 0, v4), (5, 0, v5), (11, 1, v11')] [] m (fun r m1 => gh_F m1 ∧ Q r m1) := by
    intro v11' m hF hj
    have h := hJ275 v11' m hj
    refine gh_aload_n gd_Model_countTrees_275 0 rfl (by decide) ?_
    refine gf_63_62 gd_Model_countTrees_276 gh_k1429 hF ?_
    refine gh_iload gd_Model_countTrees_279 2 rfl ?_
    refine gh_lload gd_Model_countTrees_281 3 rfl ?_
    obtain ⟨q4237, h⟩ := h
    obtain ⟨q4238, h⟩ := h
    refine sa_105 gd_Model_countTrees_283 hF q4237 q4238 (fun hF => ?_)
    refine gh_aload_n gd_Model_countTrees_284 0 rfl (by decide) ?_
    refine gh_dup gd_Model_countTrees_285 (by decide) ?_
    refine gf_63_66 gd_Model_countTrees_286 gh_k1433 hF (gh_u_a (by decide)) ?_
    refine gh_iconst gd_Model_countTrees_289 (gh_r0 rfl) ?_
    obtain ⟨q4239, h⟩ := h
    refine gh_isub gd_Model_countTrees_290 q4239 ?_
    refine pf_63_66 gd_Model_countTrees_291 gh_k1433 hF (fun hF => ?_)
    refine gh_pick (L2 := [(0, 2, 63), (4, 0, v4)]) [0, 1] rfl ?_
    exact hJ294 (gh_u (gh_u m 105 v5 v11') 63 66 ((m 63 66) - 1)) hF h
  obtain ⟨hk, hA, hB⟩ := h
  have k4242 : ((v13 < ((m 77 v6) + (m 78 v6))) ∧ ((m 105 v5) < 0)) → gh_T E (gh_yModel_countTrees.cls, prog_14_method_96_code, 14, false, 1) (d + 4) 243 [(0, 2, 63), (4, 0, v4), (5, 0, v5), (6, 0, v6), (7, 0, v7), (8, 0, v8), (9, 0, v9), (11, 1, v11), (13, 0, v13)] [] m (fun r m1 => gh_F m1 ∧ Q r m1) := by
    intro c
    have h := hA c
    refine gh_aload_n gd_Model_countTrees_243 0 rfl (by decide) ?_
    refine gh_iload gd_Model_countTrees_244 8 rfl ?_
    refine gh_iload gd_Model_countTrees_246 4 rfl ?_
    refine gh_iload gd_Model_countTrees_248 5 rfl ?_
    refine gh_iload gd_Model_countTrees_250 6 rfl ?_
    refine cv_Model_layWays (d := d + 3) gd_Model_countTrees_252 gh_k1989 hF (Nat.le_of_ble_eq_true rfl) (gh_C.mono (s_Model_layWays d v13 v7 v8 v9 hF h) (fun r4244 m4245 hq => ?_))
    obtain ⟨hF, h⟩ := hq
    refine gh_lload gd_Model_countTrees_255 7 rfl ?_
    refine gh_aload_n gd_Model_countTrees_257 0 rfl (by decide) ?_
    refine gf_63_67 gd_Model_countTrees_258 gh_k1434 hF ?_
    refine gh_iload gd_Model_countTrees_261 4 rfl ?_
    obtain ⟨q4246, h⟩ := h
    obtain ⟨q4247, h⟩ := h
    refine la_108 gd_Model_countTrees_263 hF q4246 q4247 rfl ?_
    obtain ⟨q4248, h⟩ := h
    refine cv_Model_plus (d := d + 3) gd_Model_countTrees_264 gh_k2002 (Nat.le_of_ble_eq_true rfl) (gh_C.pe (e_Model_plus (d + 3) v11 (m4245 108 v7) q4248) ?_)
    refine gh_name (fun v11' hn => ?_)
    have h := h v11' hn
    refine gh_lstore (L2 := [(11, 1, v11'), (0, 2, 63), (4, 0, v4), (5, 0, v5), (6, 0, v6), (7, 0, v7), (8, 0, v8), (9, 0, v9), (13, 0, v13)]) gd_Model_countTrees_267 (by decide) rfl ?_
    obtain ⟨q4249, h⟩ := h
    refine gh_iinc (L2 := [(13, 0, v13 + 1), (11, 1, v11'), (0, 2, 63), (4, 0, v4), (5, 0, v5), (6, 0, v6), (7, 0, v7), (8, 0, v8), (9, 0, v9)]) gd_Model_countTrees_269 8 rfl q4249 (by decide) rfl ?_
    refine gh_goto (tgt := 211) gd_Model_countTrees_272 (by decide) ?_
    refine gh_pick (L2 := [(0, 2, 63), (4, 0, v4), (5, 0, v5), (6, 0, v6), (7, 0, v7), (8, 0, v8), (9, 0, v9), (11, 1, v11'), (13, 0, v13 + 1)]) [2, 3, 4, 5, 6, 7, 8, 1, 0] rfl ?_
    exact hK211 v11' (v13 + 1) m4245 hF h
  have k4243 : ¬ ((v13 < ((m 77 v6) + (m 78 v6))) ∧ ((m 105 v5) < 0)) → gh_T E (gh_yModel_countTrees.cls, prog_14_method_96_code, 14, false, 1) (d + 4) 275 [(0, 2, 63), (4, 0, v4), (5, 0, v5), (6, 0, v6), (7, 0, v7), (8, 0, v8), (9, 0, v9), (11, 1, v11), (13, 0, v13)] [] m (fun r m1 => gh_F m1 ∧ Q r m1) := by
    intro c
    have h := hB c
    refine gh_pick (L2 := [(0, 2, 63), (4, 0, v4), (5, 0, v5), (11, 1, v11)]) [0, 1, 2, 7] rfl ?_
    exact hJ275 v11 m hF h
  refine gh_jge (tgt := 275) gd_Model_countTrees_228 (by decide) (fun c4250 => ?_) (fun c4250 => ?_)
  · have hz : True := trivial
    have hk := hk c4250
    refine gh_aload_n gd_Model_countTrees_231 0 rfl (by decide) ?_
    refine gf_63_62 gd_Model_countTrees_232 gh_k1429 hF ?_
    refine gh_iload gd_Model_countTrees_235 2 rfl ?_
    obtain ⟨q4240, hk⟩ := hk
    have q4241 := hk
    refine la_105 gd_Model_countTrees_237 hF q4240 q4241 rfl ?_
    refine gh_lconst (n := 0) gd_Model_countTrees_238 (by decide) (gh_r1 rfl) ?_
    refine gh_lcmp gd_Model_countTrees_239 ?_
    refine gh_cge (tgt := 275) gd_Model_countTrees_240 (by decide) (fun c4251 => ?_) (fun c4251 => ?_)
    · have hz : True := trivial
      exact k4242 ⟨c4250, c4251⟩
    · have hz : True := trivial
      exact k4243 (fun z => c4251 z.2)
  · have hz : True := trivial
    exact k4243 (fun z => c4250 z.1)
theorem b_Model_countTrees_72 {E : gh_E} {v4 : Int} {Q : Int → gh_M → Prop} {K72 : gh_M → Prop} (d : Nat) (hK : ∀ (m : gh_M), gh_F m → K72 m → gh_T E (gh_yModel_countTrees.cls, prog_14_method_96_code, 14, false, 1) (d + 4) 72 [(0, 2, 63), (4, 0, v4)] [] m (fun r m1 => gh_F m1 ∧ Q r m1)) (m : gh_M) (hF : gh_F m) (h : f_Model_countTrees_72 v4 Q K72 m) : gh_T E (gh_yModel_countTrees.cls, prog_14_method_96_code, 14, false, 1) (d + 4) 72 [(0, 2, 63), (4, 0, v4)] [] m (fun r m1 => gh_F m1 ∧ Q r m1) := by
  have hK72 := hK
  unfold f_Model_countTrees_72 at h
  refine gh_aload_n gd_Model_countTrees_72 0 rfl (by decide) ?_
  refine gf_63_66 gd_Model_countTrees_73 gh_k1433 hF rfl ?_
  obtain ⟨hA, hB⟩ := h
  refine gh_zle (tgt := 297) gd_Model_countTrees_76 (by decide) (fun c4208 => ?_) (fun c4208 => ?_)
  · have h := hA c4208
    refine gh_aload_n gd_Model_countTrees_297 0 rfl (by decide) ?_
    refine gf_63_62 gd_Model_countTrees_298 gh_k1429 hF ?_
    refine gh_iload gd_Model_countTrees_301 1 rfl ?_
    obtain ⟨q4209, h⟩ := h
    obtain ⟨q4210, h⟩ := h
    refine la_105 gd_Model_countTrees_303 hF q4209 q4210 rfl ?_
    exact gh_ret1 rfl gd_Model_countTrees_304 ⟨hF, h⟩
  · have h := hB c4208
    refine gh_aload_n gd_Model_countTrees_79 0 rfl (by decide) ?_
    refine gf_63_65 gd_Model_countTrees_80 gh_k1432 hF ?_
    refine gh_aload_n gd_Model_countTrees_83 0 rfl (by decide) ?_
    refine gf_63_66 gd_Model_countTrees_84 gh_k1433 hF rfl ?_
    refine gh_iconst gd_Model_countTrees_87 (gh_r0 rfl) ?_
    obtain ⟨q4211, h⟩ := h
    refine gh_isub gd_Model_countTrees_88 q4211 ?_
    obtain ⟨q4212, h⟩ := h
    obtain ⟨q4213, h⟩ := h
    refine la_107 gd_Model_countTrees_89 hF q4212 q4213 rfl ?_
    refine gh_name (fun v5 hn => ?_)
    have h := h v5 hn
    refine gh_istore (L2 := [(5, 0, v5), (0, 2, 63), (4, 0, v4)]) gd_Model_countTrees_90 (by decide) rfl ?_
    refine gh_iload gd_Model_countTrees_92 0 rfl ?_
    refine gh_sipush gd_Model_countTrees_94 (by decide) (gh_r0 rfl) ?_
    obtain ⟨q4214, h⟩ := h
    refine gh_idiv gd_Model_countTrees_97 q4214 (by decide) ?_
    refine gh_name (fun v6 hn => ?_)
    have h := h v6 hn
    refine gh_istore (L2 := [(6, 0, v6), (5, 0, v5), (0, 2, 63), (4, 0, v4)]) gd_Model_countTrees_98 (by decide) rfl ?_
    refine gh_iload gd_Model_countTrees_100 1 rfl ?_
    refine gh_sipush gd_Model_countTrees_102 (by decide) (gh_r0 rfl) ?_
    obtain ⟨q4215, h⟩ := h
    refine gh_idiv gd_Model_countTrees_105 q4215 (by decide) ?_
    refine gh_bipush gd_Model_countTrees_106 (by decide) (gh_r0 rfl) ?_
    obtain ⟨q4216, h⟩ := h
    refine gh_irem gd_Model_countTrees_108 q4216 (by decide) ?_
    refine gh_bipush gd_Model_countTrees_109 (by decide) (gh_r0 rfl) ?_
    obtain ⟨q4217, h⟩ := h
    refine gh_idiv gd_Model_countTrees_111 q4217 (by decide) ?_
    refine gh_name (fun v7 hn => ?_)
    have h := h v7 hn
    refine gh_istore (L2 := [(7, 0, v7), (6, 0, v6), (5, 0, v5), (0, 2, 63), (4, 0, v4)]) gd_Model_countTrees_112 (by decide) rfl ?_
    refine gh_iload gd_Model_countTrees_114 2 rfl ?_
    refine gh_sipush gd_Model_countTrees_116 (by decide) (gh_r0 rfl) ?_
    obtain ⟨q4218, h⟩ := h
    refine gh_idiv gd_Model_countTrees_119 q4218 (by decide) ?_
    refine gh_bipush gd_Model_countTrees_120 (by decide) (gh_r0 rfl) ?_
    obtain ⟨q4219, h⟩ := h
    refine gh_irem gd_Model_countTrees_122 q4219 (by decide) ?_
    refine gh_name (fun v8 hn => ?_)
    have h := h v8 hn
    refine gh_istore (L2 := [(8, 0, v8), (7, 0, v7), (6, 0, v6), (5, 0, v5), (0, 2, 63), (4, 0, v4)]) gd_Model_countTrees_123 (by decide) rfl ?_
    refine gh_iload gd_Model_countTrees_125 3 rfl ?_
    refine gh_sipush gd_Model_countTrees_127 (by decide) (gh_r0 rfl) ?_
    obtain ⟨q4220, h⟩ := h
    refine gh_irem gd_Model_countTrees_130 q4220 (by decide) ?_
    refine gh_iconst gd_Model_countTrees_131 (gh_r0 rfl) ?_
    refine gh_iload gd_Model_countTrees_132 2 rfl ?_
    refine gh_ishl gd_Model_countTrees_134 ?_
    refine gh_ior gd_Model_countTrees_135 ?_
    refine gh_name (fun v9 hn => ?_)
    have h := h v9 hn
    refine gh_istore (L2 := [(9, 0, v9), (8, 0, v8), (7, 0, v7), (6, 0, v6), (5, 0, v5), (0, 2, 63), (4, 0, v4)]) gd_Model_countTrees_136 (by decide) rfl ?_
    refine gh_aload_n gd_Model_countTrees_138 5 rfl (by decide) ?_
    refine gf_63_66 gd_Model_countTrees_139 gh_k1433 hF rfl ?_
    refine gh_name (fun v10 hn => ?_)
    have h := h v10 hn
    refine gh_istore (L2 := [(10, 0, v10), (9, 0, v9), (8, 0, v8), (7, 0, v7), (6, 0, v6), (5, 0, v5), (0, 2, 63), (4, 0, v4)]) gd_Model_countTrees_142 (by decide) rfl ?_
    refine gh_aload_n gd_Model_countTrees_144 6 rfl (by decide) ?_
    refine gf_63_62 gd_Model_countTrees_145 gh_k1429 hF ?_
    refine gh_iload gd_Model_countTrees_148 5 rfl ?_
    obtain ⟨q4221, h⟩ := h
    obtain ⟨q4222, h⟩ := h
    refine la_105 gd_Model_countTrees_150 hF q4221 q4222 rfl ?_
    refine gh_lconst (n := 0) gd_Model_countTrees_151 (by decide) (gh_r1 rfl) ?_
    refine gh_lcmp gd_Model_countTrees_152 ?_
    obtain ⟨J168, hJ168, h⟩ := h
    have hJ168 : ∀ (m : gh_M), gh_F m → J168 m → gh_T E (gh_yModel_countTrees.cls, prog_14_method_96_code, 14, false, 1) (d + 4) 168 [(0, 2, 63), (4, 0, v4), (5, 0, v5), (6, 0, v6), (7, 0, v7), (8, 0, v8), (9, 0, v9), (10, 0, v10)] [] m (fun r m1 => gh_F m1 ∧ Q r m1) := by
      intro m hF hj
      have h := hJ168 m hj
      refine gh_aload_n gd_Model_countTrees_168 0 rfl (by decide) ?_
      refine gf_63_66 gd_Model_countTrees_169 gh_k1433 hF rfl ?_
      refine gh_iload gd_Model_countTrees_172 7 rfl ?_
      obtain ⟨J294, hJ294, h⟩ := h
      have hJ294 : ∀ (m : gh_M), gh_F m → J294 m → gh_T E (gh_yModel_countTrees.cls, prog_14_method_96_code, 14, false, 1) (d + 4) 294 [(0, 2, 63), (4, 0, v4)] [] m (fun r m1 => gh_F m1 ∧ Q r m1) := by
        intro m hF hj
        have h := hJ294 m hj
        refine gh_goto (tgt := 72) gd_Model_countTrees_294 (by decide) ?_
        exact hK72 m hF h
      obtain ⟨hA, hB⟩ := h
      refine gh_jne (tgt := 294) gd_Model_countTrees_174 (by decide) (fun c4223 => ?_) (fun c4223 => ?_)
      · have h := hA c4223
        refine gh_aload_n gd_Model_countTrees_177 0 rfl (by decide) ?_
        refine gf_63_62 gd_Model_countTrees_178 gh_k1429 hF ?_
        refine gh_iload gd_Model_countTrees_181 2 rfl ?_
        obtain ⟨q4224, h⟩ := h
        obtain ⟨q4225, h⟩ := h
        refine la_105 gd_Model_countTrees_183 hF q4224 q4225 rfl ?_
        refine gh_lconst (n := 0) gd_Model_countTrees_184 (by decide) (gh_r1 rfl) ?_
        refine gh_lcmp gd_Model_countTrees_185 ?_
        obtain ⟨hk, h⟩ := h
        have k4228 : ∀ x4229 : Int, x4229 = (if (m 105 v5) < 0 then 0 else (m 105 v5)) → gh_T E (gh_yModel_countTrees.cls, prog_14_method_96_code, 14, false, 1) (d + 4) 200 [(0, 2, 63), (4, 0, v4), (5, 0, v5), (6, 0, v6), (7, 0, v7), (8, 0, v8), (9, 0, v9), (10, 0, v10)] [(1, x4229)] m (fun r m1 => gh_F m1 ∧ Q r m1) := by
          rintro _ rfl
          refine gh_name (fun v11 hn => ?_)
          have h := h v11 hn
          refine gh_lstore (L2 := [(11, 1, v11), (0, 2, 63), (4, 0, v4), (5, 0, v5), (6, 0, v6), (7, 0, v7), (8, 0, v8), (9, 0, v9), (10, 0, v10)]) gd_Model_countTrees_200 (by decide) rfl ?_
          refine gh_aload_n gd_Model_countTrees_202 1 rfl (by decide) ?_
          refine gf_63_30 gd_Model_countTrees_203 gh_k1397 hF ?_
          refine gh_iload gd_Model_countTrees_206 4 rfl ?_
          obtain ⟨q4230, h⟩ := h
          obtain ⟨q4231, h⟩ := h
          refine la_77 gd_Model_countTrees_208 hF q4230 q4231 rfl ?_
          refine gh_name (fun v13 hn => ?_)
          have h := h v13 hn
          refine gh_istore (L2 := [(13, 0, v13), (11, 1, v11), (0, 2, 63), (4, 0, v4), (5, 0, v5), (6, 0, v6), (7, 0, v7), (8, 0, v8), (9, 0, v9), (10, 0, v10)]) gd_Model_countTrees_209 (by decide) rfl ?_
          refine gh_pick (L2 := [(0, 2, 63), (4, 0, v4), (5, 0, v5), (6, 0, v6), (7, 0, v7), (8, 0, v8), (9, 0, v9), (11, 1, v11), (13, 0, v13)]) [2, 3, 4, 5, 6, 7, 8, 1, 0] rfl ?_
          exact gh_M2_sound (T := fun v11 v13 m => gh_T E (gh_yModel_countTrees.cls, prog_14_method_96_code, 14, false, 1) (d + 4) 211 [(0, 2, 63), (4, 0, v4), (5, 0, v5), (6, 0, v6), (7, 0, v7), (8, 0, v8), (9, 0, v9), (11, 1, v11), (13, 0, v13)] [] m (fun r m1 => gh_F m1 ∧ Q r m1)) (fun _ _ m => gh_F m) (fun K211 v11 v13 m hK hF h => b_Model_countTrees_211 d hJ294 hK v11 v13 m hF h) v11 v13 m hF h
        refine gh_cge (tgt := 193) gd_Model_countTrees_186 (by decide) (fun c4252 => ?_) (fun c4252 => ?_)
        · have hz : True := trivial
          refine gh_lconst (n := 0) gd_Model_countTrees_189 (by decide) (gh_r1 rfl) ?_
          refine gh_goto (tgt := 200) gd_Model_countTrees_190 (by decide) ?_
          exact k4228 _ (by rw [if_pos c4252])
        · have hz : True := trivial
          have hk := hk c4252
          refine gh_aload_n gd_Model_countTrees_193 0 rfl (by decide) ?_
          refine gf_63_62 gd_Model_countTrees_194 gh_k1429 hF ?_
          refine gh_iload gd_Model_countTrees_197 2 rfl ?_
          obtain ⟨q4226, hk⟩ := hk
          have q4227 := hk
          refine la_105 gd_Model_countTrees_199 hF q4226 q4227 rfl ?_
          exact k4228 _ (by rw [if_neg c4252])
      · have h := hB c4223
        refine gh_pick (L2 := [(0, 2, 63), (4, 0, v4)]) [0, 1] rfl ?_
        exact hJ294 m hF h
    obtain ⟨hA, hB⟩ := h
    refine gh_cge (tgt := 168) gd_Model_countTrees_153 (by decide) (fun c4253 => ?_) (fun c4253 => ?_)
    · have h := hA c4253
      refine gh_aload_n gd_Model_countTrees_156 6 rfl (by decide) ?_
      refine gh_iload gd_Model_countTrees_157 4 rfl ?_
      refine gh_iload gd_Model_countTrees_159 3 rfl ?_
      refine gh_iload gd_Model_countTrees_161 2 rfl ?_
      refine gh_iload gd_Model_countTrees_163 1 rfl ?_
      refine cv_Model_wantFor (d := d + 3) gd_Model_countTrees_165 gh_k1981 hF (Nat.le_of_ble_eq_true rfl) (gh_C.mono (s_Model_wantFor (d + 1) v6 v7 v8 v9 hF h) (fun r4254 m4255 hq => ?_))
      obtain ⟨hF, h⟩ := hq
      refine gh_pick (L2 := [(0, 2, 63), (4, 0, v4), (5, 0, v5), (6, 0, v6), (7, 0, v7), (8, 0, v8), (9, 0, v9), (10, 0, v10)]) [6, 7, 5, 4, 3, 2, 1, 0] rfl ?_
      exact hJ168 m4255 hF h
    · have h := hB c4253
      refine gh_pick (L2 := [(0, 2, 63), (4, 0, v4), (5, 0, v5), (6, 0, v6), (7, 0, v7), (8, 0, v8), (9, 0, v9), (10, 0, v10)]) [6, 7, 5, 4, 3, 2, 1, 0] rfl ?_
      exact hJ168 m hF h
theorem b_Model_countTrees_19 {E : gh_E} {v1 : Int} {v2 : Int} {v3 : Int} {J42 : gh_M → Prop} {Q : Int → gh_M → Prop} {K19 : Int → gh_M → Prop} (d : Nat) (hJ42 : ∀ (m : gh_M), gh_F m → J42 m → gh_T E (gh_yModel_countTrees.cls, prog_14_method_96_code, 14, false, 1) (d + 4) 42 [(0, 2, 63), (1, 0, v1), (2, 0, v2), (3, 0, v3)] [] m (fun r m1 => gh_F m1 ∧ Q r m1)) (hK : ∀ (v4 : Int) (m : gh_M), gh_F m → K19 v4 m → gh_T E (gh_yModel_countTrees.cls, prog_14_method_96_code, 14, false, 1) (d + 4) 19 [(0, 2, 63), (1, 0, v1), (2, 0, v2), (3, 0, v3), (4, 0, v4)] [] m (fun r m1 => gh_F m1 ∧ Q r m1)) (v4 : Int) (m : gh_M) (hF : gh_F m) (h : f_Model_countTrees_19 v1 v2 v3 J42 K19 v4 m) : gh_T E (gh_yModel_countTrees.cls, prog_14_method_96_code, 14, false, 1) (d + 4) 19 [(0, 2, 63), (1, 0, v1), (2, 0, v2), (3, 0, v3), (4, 0, v4)] [] m (fun r m1 => gh_F m1 ∧ Q r m1) := by
  have hK19 := hK
  unfold f_Model_countTrees_19 at h
  refine gh_iload gd_Model_countTrees_19 4 rfl ?_
  refine gh_ldc (n := 165888) gd_Model_countTrees_21 gh_k1365 (by decide) (gh_r0 rfl) ?_
  obtain ⟨hA, hB⟩ := h
  refine gh_jge (tgt := 42) gd_Model_countTrees_23 (by decide) (fun c4257 => ?_) (fun c4257 => ?_)
  · have h := hA c4257
    refine gh_aload_n gd_Model_countTrees_26 0 rfl (by decide) ?_
    refine gf_63_62 gd_Model_countTrees_27 gh_k1429 hF ?_
    refine gh_iload gd_Model_countTrees_30 4 rfl ?_
    refine gh_ldc2 (n := (-1)) gd_Model_countTrees_32 gh_k1973 (by decide) (gh_r1 rfl) ?_
    obtain ⟨q4258, h⟩ := h
    obtain ⟨q4259, h⟩ := h
    refine sa_105 gd_Model_countTrees_35 hF q4258 q4259 (fun hF => ?_)
    obtain ⟨q4260, h⟩ := h
    refine gh_iinc (L2 := [(4, 0, v4 + 1), (0, 2, 63), (1, 0, v1), (2, 0, v2), (3, 0, v3)]) gd_Model_countTrees_36 4 rfl q4260 (by decide) rfl ?_
    refine gh_goto (tgt := 19) gd_Model_countTrees_39 (by decide) ?_
    refine gh_pick (L2 := [(0, 2, 63), (1, 0, v1), (2, 0, v2), (3, 0, v3), (4, 0, v4 + 1)]) [1, 2, 3, 4, 0] rfl ?_
    exact hK19 (v4 + 1) (gh_u m 105 v4 (-1)) hF h
  · have h := hB c4257
    refine gh_pick (L2 := [(0, 2, 63), (1, 0, v1), (2, 0, v2), (3, 0, v3)]) [0, 1, 2, 3] rfl ?_
    exact hJ42 m hF h
theorem s_Model_countTrees {E : gh_E} {m : gh_M} {Q : Int → gh_M → Prop} (d : Nat) (v1 : Int) (v2 : Int) (v3 : Int) (hF : gh_F m) (h : w_Model_countTrees v1 v2 v3 m Q) : gh_C E gh_yModel_countTrees prog_14_method_96_code 14 (some .long) 1 (d + 4) [(2, 63), (0, v1), (0, v2), (0, v3)] m (fun r m1 => gh_F m1 ∧ Q r m1) := by
  refine gh_enter2 (L := [(0, 2, 63), (1, 0, v1), (2, 0, v2), (3, 0, v3)]) (by decide +kernel) gh_rt1 (Nat.le_of_ble_eq_true rfl) rfl rfl ?_
  unfold w_Model_countTrees at h
  refine gh_aload_n gd_Model_countTrees_0 0 rfl (by decide) ?_
  refine cv_Model_lay (d := d + 3) gd_Model_countTrees_1 gh_k1896 hF (Nat.le_of_ble_eq_true rfl) (gh_C.mono (s_Model_lay (d + 1) hF h) (fun r4202 m4203 hq => ?_))
  obtain ⟨hF, h⟩ := hq
  refine gh_aload_n gd_Model_countTrees_4 0 rfl (by decide) ?_
  refine gf_63_61 gd_Model_countTrees_5 gh_k1428 hF rfl ?_
  obtain ⟨J42, hJ42, h⟩ := h
  have hJ42 : ∀ (m : gh_M), gh_F m → J42 m → gh_T E (gh_yModel_countTrees.cls, prog_14_method_96_code, 14, false, 1) (d + 4) 42 [(0, 2, 63), (1, 0, v1), (2, 0, v2), (3, 0, v3)] [] m (fun r m1 => gh_F m1 ∧ Q r m1) := by
    intro m hF hj
    have h := hJ42 m hj
    refine gh_iload_n gd_Model_countTrees_42 1 rfl ?_
    refine gh_iload_n gd_Model_countTrees_43 2 rfl ?_
    refine gh_iload_n gd_Model_countTrees_44 3 rfl ?_
    refine gh_iconst gd_Model_countTrees_45 (gh_r0 rfl) ?_
    obtain ⟨q4204, h⟩ := h
    refine cv_Model_keyOf (d := d + 3) gd_Model_countTrees_46 gh_k1974 (Nat.le_of_ble_eq_true rfl) (gh_C.pe (e_Model_keyOf (d + 3) v1 v2 v3 0 q4204) ?_)
    refine gh_name (fun v4 hn => ?_)
    have h := h v4 hn
    refine gh_istore (L2 := [(4, 0, v4), (0, 2, 63), (1, 0, v1), (2, 0, v2), (3, 0, v3)]) gd_Model_countTrees_49 (by decide) rfl ?_
    refine gh_aload_n gd_Model_countTrees_51 1 rfl (by decide) ?_
    refine gh_iconst gd_Model_countTrees_52 (gh_r0 rfl) ?_
    refine pf_63_66 gd_Model_countTrees_53 gh_k1433 hF (fun hF => ?_)
    refine gh_aload_n gd_Model_countTrees_56 1 rfl (by decide) ?_
    refine gh_dup gd_Model_countTrees_57 (by decide) ?_
    refine gf_63_64 gd_Model_countTrees_58 gh_k1431 hF (gh_u_i (by decide)) ?_
    refine gh_iconst gd_Model_countTrees_61 (gh_r0 rfl) ?_
    obtain ⟨q4205, h⟩ := h
    refine gh_iadd gd_Model_countTrees_62 q4205 ?_
    refine pf_63_64 gd_Model_countTrees_63 gh_k1431 hF (fun hF => ?_)
    refine gh_aload_n gd_Model_countTrees_66 1 rfl (by decide) ?_
    refine gh_iload gd_Model_countTrees_67 0 rfl ?_
    refine cv_Model_want (d := d + 3) gd_Model_countTrees_69 gh_k1977 hF (Nat.le_of_ble_eq_true rfl) (gh_C.mono (s_Model_want (d + 3) v4 hF h) (fun r4206 m4207 hq => ?_))
    obtain ⟨hF, h⟩ := hq
    refine gh_pick (L2 := [(0, 2, 63), (4, 0, v4)]) [1, 0] rfl ?_
    exact gh_M0_sound (T := fun m => gh_T E (gh_yModel_countTrees.cls, prog_14_method_96_code, 14, false, 1) (d + 4) 72 [(0, 2, 63), (4, 0, v4)] [] m (fun r m1 => gh_F m1 ∧ Q r m1)) (fun m => gh_F m) (fun K72 m hK hF h => b_Model_countTrees_72 d hK m hF h) m4207 hF h
  obtain ⟨hA, hB⟩ := h
  refine gh_zne (tgt := 42) gd_Model_countTrees_8 (by decide) (fun c4256 => ?_) (fun c4256 => ?_)
  · have h := hA c4256
    refine gh_aload_n gd_Model_countTrees_11 0 rfl (by decide) ?_
    refine gh_iconst gd_Model_countTrees_12 (gh_r0 rfl) ?_
    refine pf_63_61 gd_Model_countTrees_13 gh_k1428 hF (by decide) (fun hF => ?_)
    refine gh_iconst gd_Model_countTrees_16 (gh_r0 rfl) ?_
    refine gh_istore (L2 := [(4, 0, 0), (0, 2, 63), (1, 0, v1), (2, 0, v2), (3, 0, v3)]) gd_Model_countTrees_17 (by decide) rfl ?_
    refine gh_pick (L2 := [(0, 2, 63), (1, 0, v1), (2, 0, v2), (3, 0, v3), (4, 0, 0)]) [1, 2, 3, 4, 0] rfl ?_
    exact gh_M1_sound (T := fun v4 m => gh_T E (gh_yModel_countTrees.cls, prog_14_method_96_code, 14, false, 1) (d + 4) 19 [(0, 2, 63), (1, 0, v1), (2, 0, v2), (3, 0, v3), (4, 0, v4)] [] m (fun r m1 => gh_F m1 ∧ Q r m1)) (fun _ m => gh_F m) (fun K19 v4 m hK hF h => b_Model_countTrees_19 d hJ42 hK v4 m hF h) 0 (gh_u m4203 63 61 1) hF h
  · have h := hB c4256
    exact hJ42 m4203 hF h
def w_Model_trees (v1 : Int) (v2 : Int) (v3 : Int) (m : gh_M) (Q : Int → gh_M → Prop) : Prop := ∃ J35 : Prop, (J35 → ((v2 ≤ v3 → (((m 63 24) = 0 → Q (-1003) m) ∧ (¬ ((m 63 24) = 0) → w_Model_countTrees v1 v2 v3 m (fun r4263 m4264 => Q (if r4263 ≤ 999999999999999999 then r4263 else (-2)) m4264)))) ∧ (¬ (v2 ≤ v3) → Q (-1002) m))) ∧ ((¬ ((m 63 24) = 0) → (k_Model_isName v1 m))) ∧ (((((m 63 24) = 0) ∨ ((p_Model_isName v1 m) ∧ ((p_Model_isPlace v2 m) ∧ (p_Model_isPlace v3 m)))) → J35) ∧ (¬ (((m 63 24) = 0) ∨ ((p_Model_isName v1 m) ∧ ((p_Model_isPlace v2 m) ∧ (p_Model_isPlace v3 m)))) → Q (-1001) m))
theorem s_Model_trees {E : gh_E} {m : gh_M} {Q : Int → gh_M → Prop} (d : Nat) (v1 : Int) (v2 : Int) (v3 : Int) (hF : gh_F m) (h : w_Model_trees v1 v2 v3 m Q) : gh_C E gh_yModel_trees prog_14_method_97_code 6 (some .long) 1 (d + 5) [(2, 63), (0, v1), (0, v2), (0, v3)] m (fun r m1 => gh_F m1 ∧ Q r m1) := by
  refine gh_enter2 (L := [(0, 2, 63), (1, 0, v1), (2, 0, v2), (3, 0, v3)]) (by decide +kernel) gh_rt1 (Nat.le_of_ble_eq_true rfl) rfl rfl ?_
  unfold w_Model_trees at h
  refine gh_aload_n gd_Model_trees_0 0 rfl (by decide) ?_
  refine gf_63_24 gd_Model_trees_1 gh_k1391 hF rfl ?_
  obtain ⟨J35, hJ35, h⟩ := h
  have hJ35 : gh_F m → J35 → gh_T E (gh_yModel_trees.cls, prog_14_method_97_code, 6, false, 1) (d + 5) 35 [(0, 2, 63), (1, 0, v1), (2, 0, v2), (3, 0, v3)] [] m (fun r m1 => gh_F m1 ∧ Q r m1) := by
    intro hF hj
    have h := hJ35 hj
    refine gh_iload_n gd_Model_trees_35 2 rfl ?_
    refine gh_iload_n gd_Model_trees_36 3 rfl ?_
    obtain ⟨hA, hB⟩ := h
    refine gh_jle (tgt := 44) gd_Model_trees_37 (by decide) (fun c4261 => ?_) (fun c4261 => ?_)
    · have h := hA c4261
      refine gh_aload_n gd_Model_trees_44 0 rfl (by decide) ?_
      refine gf_63_24 gd_Model_trees_45 gh_k1391 hF rfl ?_
      obtain ⟨hA, hB⟩ := h
      refine gh_zne (tgt := 55) gd_Model_trees_48 (by decide) (fun c4262 => ?_) (fun c4262 => ?_)
      · have h := hA c4262
        refine gh_ldc2 (n := (-1003)) gd_Model_trees_51 gh_k1968 (by decide) (gh_r1 rfl) ?_
        exact gh_ret1 rfl gd_Model_trees_54 ⟨hF, h⟩
      · have h := hB c4262
        refine gh_aload_n gd_Model_trees_55 0 rfl (by decide) ?_
        refine gh_iload_n gd_Model_trees_56 1 rfl ?_
        refine gh_iload_n gd_Model_trees_57 2 rfl ?_
        refine gh_iload_n gd_Model_trees_58 3 rfl ?_
        refine cv_Model_countTrees (d := d + 4) gd_Model_trees_59 gh_k1969 hF (Nat.le_of_ble_eq_true rfl) (gh_C.mono (s_Model_countTrees d v1 v2 v3 hF h) (fun r4263 m4264 hq => ?_))
        obtain ⟨hF, h⟩ := hq
        refine gh_lstore (L2 := [(4, 1, r4263), (0, 2, 63), (1, 0, v1), (2, 0, v2), (3, 0, v3)]) gd_Model_trees_62 (by decide) rfl ?_
        refine gh_lload gd_Model_trees_64 0 rfl ?_
        refine gh_ldc2 (n := 999999999999999999) gd_Model_trees_66 gh_k2000 (by decide) (gh_r1 rfl) ?_
        refine gh_lcmp gd_Model_trees_69 ?_
        have k4265 : ∀ x4266 : Int, x4266 = (if r4263 ≤ 999999999999999999 then r4263 else (-2)) → gh_T E (gh_yModel_trees.cls, prog_14_method_97_code, 6, false, 1) (d + 5) 81 [(4, 1, r4263), (0, 2, 63), (1, 0, v1), (2, 0, v2), (3, 0, v3)] [(1, x4266)] m4264 (fun r m1 => gh_F m1 ∧ Q r m1) := by
          rintro _ rfl
          exact gh_ret1 rfl gd_Model_trees_81 ⟨hF, h⟩
        refine gh_cle (tgt := 79) gd_Model_trees_70 (by decide) (fun c4267 => ?_) (fun c4267 => ?_)
        · have hz : True := trivial
          refine gh_lload gd_Model_trees_79 0 rfl ?_
          exact k4265 _ (by rw [if_pos c4267])
        · have hz : True := trivial
          refine gh_ldc2 (n := (-2)) gd_Model_trees_73 gh_k2005 (by decide) (gh_r1 rfl) ?_
          refine gh_goto (tgt := 81) gd_Model_trees_76 (by decide) ?_
          exact k4265 _ (by rw [if_neg c4267])
    · have h := hB c4261
      refine gh_ldc2 (n := (-1002)) gd_Model_trees_40 gh_k1967 (by decide) (gh_r1 rfl) ?_
      exact gh_ret1 rfl gd_Model_trees_43 ⟨hF, h⟩
  obtain ⟨hk, hA, hB⟩ := h
  have k4269 : (((m 63 24) = 0) ∨ ((p_Model_isName v1 m) ∧ ((p_Model_isPlace v2 m) ∧ (p_Model_isPlace v3 m)))) → gh_T E (gh_yModel_trees.cls, prog_14_method_97_code, 6, false, 1) (d + 5) 35 [(0, 2, 63), (1, 0, v1), (2, 0, v2), (3, 0, v3)] [] m (fun r m1 => gh_F m1 ∧ Q r m1) := by
    intro c
    have h := hA c
    exact hJ35 hF h
  have k4270 : ¬ (((m 63 24) = 0) ∨ ((p_Model_isName v1 m) ∧ ((p_Model_isPlace v2 m) ∧ (p_Model_isPlace v3 m)))) → gh_T E (gh_yModel_trees.cls, prog_14_method_97_code, 6, false, 1) (d + 5) 31 [(0, 2, 63), (1, 0, v1), (2, 0, v2), (3, 0, v3)] [] m (fun r m1 => gh_F m1 ∧ Q r m1) := by
    intro c
    have h := hB c
    refine gh_ldc2 (n := (-1001)) gd_Model_trees_31 gh_k1966 (by decide) (gh_r1 rfl) ?_
    exact gh_ret1 rfl gd_Model_trees_34 ⟨hF, h⟩
  refine gh_zeq (tgt := 35) gd_Model_trees_4 (by decide) (fun c4271 => ?_) (fun c4271 => ?_)
  · have hz : True := trivial
    exact k4269 (Or.inl c4271)
  · have hz : True := trivial
    have hk := hk c4271
    refine gh_aload_n gd_Model_trees_7 0 rfl (by decide) ?_
    refine gh_iload_n gd_Model_trees_8 1 rfl ?_
    have q4268 := hk
    refine cv_Model_isName (d := d + 4) gd_Model_trees_9 gh_k1813 hF (Nat.le_of_ble_eq_true rfl) (gh_C.pe (e_Model_isName (d + 3) v1 hF q4268) ?_)
    refine gh_beq (tgt := 31) gd_Model_trees_12 (by decide) (fun c4272 => ?_) (fun c4272 => ?_)
    · have hz : True := trivial
      refine gh_aload_n gd_Model_trees_15 0 rfl (by decide) ?_
      refine gh_iload_n gd_Model_trees_16 2 rfl ?_
      refine cv_Model_isPlace (d := d + 4) gd_Model_trees_17 gh_k1872 hF (Nat.le_of_ble_eq_true rfl) (gh_C.pe (e_Model_isPlace (d + 3) v2 hF) ?_)
      refine gh_beq (tgt := 31) gd_Model_trees_20 (by decide) (fun c4273 => ?_) (fun c4273 => ?_)
      · have hz : True := trivial
        refine gh_aload_n gd_Model_trees_23 0 rfl (by decide) ?_
        refine gh_iload_n gd_Model_trees_24 3 rfl ?_
        refine cv_Model_isPlace (d := d + 4) gd_Model_trees_25 gh_k1872 hF (Nat.le_of_ble_eq_true rfl) (gh_C.pe (e_Model_isPlace (d + 3) v3 hF) ?_)
        refine gh_bne (tgt := 35) gd_Model_trees_28 (by decide) (fun c4274 => ?_) (fun c4274 => ?_)
        · have hz : True := trivial
          exact k4269 (Or.inr ⟨c4272, ⟨c4273, c4274⟩⟩)
        · have hz : True := trivial
          exact k4270 (fun z => z.elim c4271 (fun z => (fun z => c4274 z.2) z.2))
      · have hz : True := trivial
        exact k4270 (fun z => z.elim c4271 (fun z => (fun z => c4273 z.1) z.2))
    · have hz : True := trivial
      exact k4270 (fun z => z.elim c4271 (fun z => c4272 z.1))
def w_Model_opn (v1 : Int) (v2 : Int) (v3 : Int) (v4 : Int) (v5 : Int) (v6 : Int) (m : gh_M) (Q : Int → gh_M → Prop) : Prop := 0 ≤ m 63 80 ∧ (m 63 80) < 1300 ∧ 0 ≤ m 63 80 ∧ (m 63 80) < 1300 ∧ 0 ≤ m 63 80 ∧ (m 63 80) < 1300 ∧ 0 ≤ m 63 80 ∧ (m 63 80) < 1300 ∧ 0 ≤ m 63 80 ∧ (m 63 80) < 1300 ∧ 0 ≤ m 63 80 ∧ (m 63 80) < 1300 ∧ gh_i ((m 63 80) + 1) ∧ Q 0 (gh_u (gh_u (gh_u (gh_u (gh_u (gh_u (gh_u m 111 (m 63 80) v1) 112 (m 63 80) v2) 113 (m 63 80) v3) 114 (m 63 80) v4) 115 (m 63 80) v5) 116 (m 63 80) v6) 63 80 ((m 63 80) + 1))
theorem s_Model_opn {E : gh_E} {m : gh_M} {Q : Int → gh_M → Prop} (d : Nat) (v1 : Int) (v2 : Int) (v3 : Int) (v4 : Int) (v5 : Int) (v6 : Int) (hF : gh_F m) (h : w_Model_opn v1 v2 v3 v4 v5 v6 m Q) : gh_C E gh_yModel_opn prog_14_method_98_code 8 none 9 (d + 0) [(2, 63), (0, v1), (0, v2), (0, v3), (0, v4), (0, v5), (1, v6)] m (fun r m1 => gh_F m1 ∧ Q r m1) := by
  refine gh_enter2 (L := [(0, 2, 63), (1, 0, v1), (2, 0, v2), (3, 0, v3), (4, 0, v4), (5, 0, v5), (6, 1, v6)]) (by decide +kernel) gh_rt9 (Nat.le_of_ble_eq_true rfl) rfl rfl ?_
  unfold w_Model_opn at h
  refine gh_aload_n gd_Model_opn_0 0 rfl (by decide) ?_
  refine gf_63_74 gd_Model_opn_1 gh_k1441 hF ?_
  refine gh_aload_n gd_Model_opn_4 0 rfl (by decide) ?_
  refine gf_63_80 gd_Model_opn_5 gh_k1447 hF rfl ?_
  refine gh_iload_n gd_Model_opn_8 1 rfl ?_
  obtain ⟨q4275, h⟩ := h
  obtain ⟨q4276, h⟩ := h
  refine sa_111 gd_Model_opn_9 hF q4275 q4276 (fun hF => ?_)
  refine gh_aload_n gd_Model_opn_10 0 rfl (by decide) ?_
  refine gf_63_75 gd_Model_opn_11 gh_k1442 hF ?_
  refine gh_aload_n gd_Model_opn_14 0 rfl (by decide) ?_
  refine gf_63_80 gd_Model_opn_15 gh_k1447 hF (gh_u_a (by decide)) ?_
  refine gh_iload_n gd_Model_opn_18 2 rfl ?_
  obtain ⟨q4277, h⟩ := h
  obtain ⟨q4278, h⟩ := h
  refine sa_112 gd_Model_opn_19 hF q4277 q4278 (fun hF => ?_)
  refine gh_aload_n gd_Model_opn_20 0 rfl (by decide) ?_
  refine gf_63_76 gd_Model_opn_21 gh_k1443 hF ?_
  refine gh_aload_n gd_Model_opn_24 0 rfl (by decide) ?_
  refine gf_63_80 gd_Model_opn_25 gh_k1447 hF ((gh_u_a (by decide)).trans (gh_u_a (by decide))) ?_
  refine gh_iload_n gd_Model_opn_28 3 rfl ?_
  obtain ⟨q4279, h⟩ := h
  obtain ⟨q4280, h⟩ := h
  refine sa_113 gd_Model_opn_29 hF q4279 q4280 (fun hF => ?_)
  refine gh_aload_n gd_Model_opn_30 0 rfl (by decide) ?_
  refine gf_63_77 gd_Model_opn_31 gh_k1444 hF ?_
  refine gh_aload_n gd_Model_opn_34 0 rfl (by decide) ?_
  refine gf_63_80 gd_Model_opn_35 gh_k1447 hF ((gh_u_a (by decide)).trans ((gh_u_a (by decide)).trans (gh_u_a (by decide)))) ?_
  refine gh_iload gd_Model_opn_38 4 rfl ?_
  obtain ⟨q4281, h⟩ := h
  obtain ⟨q4282, h⟩ := h
  refine sa_114 gd_Model_opn_40 hF q4281 q4282 (fun hF => ?_)
  refine gh_aload_n gd_Model_opn_41 0 rfl (by decide) ?_
  refine gf_63_78 gd_Model_opn_42 gh_k1445 hF ?_
  refine gh_aload_n gd_Model_opn_45 0 rfl (by decide) ?_
  refine gf_63_80 gd_Model_opn_46 gh_k1447 hF ((gh_u_a (by decide)).trans ((gh_u_a (by decide)).trans ((gh_u_a (by decide)).trans (gh_u_a (by decide))))) ?_
  refine gh_iload gd_Model_opn_49 5 rfl ?_
  obtain ⟨q4283, h⟩ := h
  obtain ⟨q4284, h⟩ := h
  refine sa_115 gd_Model_opn_51 hF q4283 q4284 (fun hF => ?_)
  refine gh_aload_n gd_Model_opn_52 0 rfl (by decide) ?_
  refine gf_63_79 gd_Model_opn_53 gh_k1446 hF ?_
  refine gh_aload_n gd_Model_opn_56 0 rfl (by decide) ?_
  refine gf_63_80 gd_Model_opn_57 gh_k1447 hF ((gh_u_a (by decide)).trans ((gh_u_a (by decide)).trans ((gh_u_a (by decide)).trans ((gh_u_a (by decide)).trans (gh_u_a (by decide)))))) ?_
  refine gh_lload gd_Model_opn_60 6 rfl ?_
  obtain ⟨q4285, h⟩ := h
  obtain ⟨q4286, h⟩ := h
  refine sa_116 gd_Model_opn_62 hF q4285 q4286 (fun hF => ?_)
  refine gh_aload_n gd_Model_opn_63 0 rfl (by decide) ?_
  refine gh_dup gd_Model_opn_64 (by decide) ?_
  refine gf_63_80 gd_Model_opn_65 gh_k1447 hF ((gh_u_a (by decide)).trans ((gh_u_a (by decide)).trans ((gh_u_a (by decide)).trans ((gh_u_a (by decide)).trans ((gh_u_a (by decide)).trans (gh_u_a (by decide))))))) ?_
  refine gh_iconst gd_Model_opn_68 (gh_r0 rfl) ?_
  obtain ⟨q4287, h⟩ := h
  refine gh_iadd gd_Model_opn_69 q4287 ?_
  refine pf_63_80 gd_Model_opn_70 gh_k1447 hF (fun hF => ?_)
  exact gh_ret9 rfl gd_Model_opn_73 ⟨hF, h⟩
def w_Model_exchange (v1 : Int) (v2 : Int) (m : gh_M) (Q : Int → gh_M → Prop) : Prop := 0 ≤ v1 ∧ v1 < 1300 ∧ ∀ v3 : Int, v3 = m 111 v1 → 0 ≤ v1 ∧ v1 < 1300 ∧ ∀ v4 : Int, v4 = m 112 v1 → 0 ≤ v1 ∧ v1 < 1300 ∧ ∀ v5 : Int, v5 = m 113 v1 → 0 ≤ v1 ∧ v1 < 1300 ∧ ∀ v6 : Int, v6 = m 114 v1 → 0 ≤ v1 ∧ v1 < 1300 ∧ ∀ v7 : Int, v7 = m 115 v1 → 0 ≤ v1 ∧ v1 < 1300 ∧ ∀ v8 : Int, v8 = m 116 v1 → 0 ≤ v2 ∧ v2 < 1300 ∧ 0 ≤ v1 ∧ v1 < 1300 ∧ 0 ≤ v2 ∧ v2 < 1300 ∧ 0 ≤ v1 ∧ v1 < 1300 ∧ 0 ≤ v2 ∧ v2 < 1300 ∧ 0 ≤ v1 ∧ v1 < 1300 ∧ 0 ≤ v2 ∧ v2 < 1300 ∧ 0 ≤ v1 ∧ v1 < 1300 ∧ 0 ≤ v2 ∧ v2 < 1300 ∧ 0 ≤ v1 ∧ v1 < 1300 ∧ 0 ≤ v2 ∧ v2 < 1300 ∧ 0 ≤ v1 ∧ v1 < 1300 ∧ 0 ≤ v2 ∧ v2 < 1300 ∧ 0 ≤ v2 ∧ v2 < 1300 ∧ 0 ≤ v2 ∧ v2 < 1300 ∧ 0 ≤ v2 ∧ v2 < 1300 ∧ 0 ≤ v2 ∧ v2 < 1300 ∧ 0 ≤ v2 ∧ v2 < 1300 ∧ Q 0 (gh_u (gh_u (gh_u (gh_u (gh_u (gh_u (gh_u (gh_u (gh_u (gh_u (gh_u (gh_u m 111 v1 (m 111 v2)) 112 v1 (m 112 v2)) 113 v1 (m 113 v2)) 114 v1 (m 114 v2)) 115 v1 (m 115 v2)) 116 v1 (m 116 v2)) 111 v2 v3) 112 v2 v4) 113 v2 v5) 114 v2 v6) 115 v2 v7) 116 v2 v8)
theorem s_Model_exchange {E : gh_E} {m : gh_M} {Q : Int → gh_M → Prop} (d : Nat) (v1 : Int) (v2 : Int) (hF : gh_F m) (h : w_Model_exchange v1 v2 m Q) : gh_C E gh_yModel_exchange prog_14_method_100_code 10 none 9 (d + 0) [(2, 63), (0, v1), (0, v2)] m (fun r m1 => gh_F m1 ∧ Q r m1) := by
  refine gh_enter2 (L := [(0, 2, 63), (1, 0, v1), (2, 0, v2)]) (by decide +kernel) gh_rt9 (Nat.le_of_ble_eq_true rfl) rfl rfl ?_
  unfold w_Model_exchange at h
  refine gh_aload_n gd_Model_exchange_0 0 rfl (by decide) ?_
  refine gf_63_74 gd_Model_exchange_1 gh_k1441 hF ?_
  refine gh_iload_n gd_Model_exchange_4 1 rfl ?_
  obtain ⟨q4288, h⟩ := h
  obtain ⟨q4289, h⟩ := h
  refine la_111 gd_Model_exchange_5 hF q4288 q4289 rfl ?_
  refine gh_name (fun v3 hn => ?_)
  have h := h v3 hn
  refine gh_istore_n (L2 := [(3, 0, v3), (0, 2, 63), (1, 0, v1), (2, 0, v2)]) gd_Model_exchange_6 (by decide) rfl ?_
  refine gh_aload_n gd_Model_exchange_7 1 rfl (by decide) ?_
  refine gf_63_75 gd_Model_exchange_8 gh_k1442 hF ?_
  refine gh_iload_n gd_Model_exchange_11 2 rfl ?_
  obtain ⟨q4290, h⟩ := h
  obtain ⟨q4291, h⟩ := h
  refine la_112 gd_Model_exchange_12 hF q4290 q4291 rfl ?_
  refine gh_name (fun v4 hn => ?_)
  have h := h v4 hn
  refine gh_istore (L2 := [(4, 0, v4), (3, 0, v3), (0, 2, 63), (1, 0, v1), (2, 0, v2)]) gd_Model_exchange_13 (by decide) rfl ?_
  refine gh_aload_n gd_Model_exchange_15 2 rfl (by decide) ?_
  refine gf_63_76 gd_Model_exchange_16 gh_k1443 hF ?_
  refine gh_iload_n gd_Model_exchange_19 3 rfl ?_
  obtain ⟨q4292, h⟩ := h
  obtain ⟨q4293, h⟩ := h
  refine la_113 gd_Model_exchange_20 hF q4292 q4293 rfl ?_
  refine gh_name (fun v5 hn => ?_)
  have h := h v5 hn
  refine gh_istore (L2 := [(5, 0, v5), (4, 0, v4), (3, 0, v3), (0, 2, 63), (1, 0, v1), (2, 0, v2)]) gd_Model_exchange_21 (by decide) rfl ?_
  refine gh_aload_n gd_Model_exchange_23 3 rfl (by decide) ?_
  refine gf_63_77 gd_Model_exchange_24 gh_k1444 hF ?_
  refine gh_iload_n gd_Model_exchange_27 4 rfl ?_
  obtain ⟨q4294, h⟩ := h
  obtain ⟨q4295, h⟩ := h
  refine la_114 gd_Model_exchange_28 hF q4294 q4295 rfl ?_
  refine gh_name (fun v6 hn => ?_)
  have h := h v6 hn
  refine gh_istore (L2 := [(6, 0, v6), (5, 0, v5), (4, 0, v4), (3, 0, v3), (0, 2, 63), (1, 0, v1), (2, 0, v2)]) gd_Model_exchange_29 (by decide) rfl ?_
  refine gh_aload_n gd_Model_exchange_31 4 rfl (by decide) ?_
  refine gf_63_78 gd_Model_exchange_32 gh_k1445 hF ?_
  refine gh_iload_n gd_Model_exchange_35 5 rfl ?_
  obtain ⟨q4296, h⟩ := h
  obtain ⟨q4297, h⟩ := h
  refine la_115 gd_Model_exchange_36 hF q4296 q4297 rfl ?_
  refine gh_name (fun v7 hn => ?_)
  have h := h v7 hn
  refine gh_istore (L2 := [(7, 0, v7), (6, 0, v6), (5, 0, v5), (4, 0, v4), (3, 0, v3), (0, 2, 63), (1, 0, v1), (2, 0, v2)]) gd_Model_exchange_37 (by decide) rfl ?_
  refine gh_aload_n gd_Model_exchange_39 5 rfl (by decide) ?_
  refine gf_63_79 gd_Model_exchange_40 gh_k1446 hF ?_
  refine gh_iload_n gd_Model_exchange_43 6 rfl ?_
  obtain ⟨q4298, h⟩ := h
  obtain ⟨q4299, h⟩ := h
  refine la_116 gd_Model_exchange_44 hF q4298 q4299 rfl ?_
  refine gh_name (fun v8 hn => ?_)
  have h := h v8 hn
  refine gh_lstore (L2 := [(8, 1, v8), (7, 0, v7), (6, 0, v6), (5, 0, v5), (4, 0, v4), (3, 0, v3), (0, 2, 63), (1, 0, v1), (2, 0, v2)]) gd_Model_exchange_45 (by decide) rfl ?_
  refine gh_aload_n gd_Model_exchange_47 6 rfl (by decide) ?_
  refine gf_63_74 gd_Model_exchange_48 gh_k1441 hF ?_
  refine gh_iload_n gd_Model_exchange_51 7 rfl ?_
  refine gh_aload_n gd_Model_exchange_52 6 rfl (by decide) ?_
  refine gf_63_74 gd_Model_exchange_53 gh_k1441 hF ?_
  refine gh_iload_n gd_Model_exchange_56 8 rfl ?_
  obtain ⟨q4300, h⟩ := h
  obtain ⟨q4301, h⟩ := h
  refine la_111 gd_Model_exchange_57 hF q4300 q4301 rfl ?_
  obtain ⟨q4302, h⟩ := h
  obtain ⟨q4303, h⟩ := h
  refine sa_111 gd_Model_exchange_58 hF q4302 q4303 (fun hF => ?_)
  refine gh_aload_n gd_Model_exchange_59 6 rfl (by decide) ?_
  refine gf_63_75 gd_Model_exchange_60 gh_k1442 hF ?_
  refine gh_iload_n gd_Model_exchange_63 7 rfl ?_
  refine gh_aload_n gd_Model_exchange_64 6 rfl (by decide) ?_
  refine gf_63_75 gd_Model_exchange_65 gh_k1442 hF ?_
  refine gh_iload_n gd_Model_exchange_68 8 rfl ?_
  obtain ⟨q4304, h⟩ := h
  obtain ⟨q4305, h⟩ := h
  refine la_112 gd_Model_exchange_69 hF q4304 q4305 (gh_u_a (by decide)) ?_
  obtain ⟨q4306, h⟩ := h
  obtain ⟨q4307, h⟩ := h
  refine sa_112 gd_Model_exchange_70 hF q4306 q4307 (fun hF => ?_)
  refine gh_aload_n gd_Model_exchange_71 6 rfl (by decide) ?_
  refine gf_63_76 gd_Model_exchange_72 gh_k1443 hF ?_
  refine gh_iload_n gd_Model_exchange_75 7 rfl ?_
  refine gh_aload_n gd_Model_exchange_76 6 rfl (by decide) ?_
  refine gf_63_76 gd_Model_exchange_77 gh_k1443 hF ?_
  refine gh_iload_n gd_Model_exchange_80 8 rfl ?_
  obtain ⟨q4308, h⟩ := h
  obtain ⟨q4309, h⟩ := h
  refine la_113 gd_Model_exchange_81 hF q4308 q4309 ((gh_u_a (by decide)).trans (gh_u_a (by decide))) ?_
  obtain ⟨q4310, h⟩ := h
  obtain ⟨q4311, h⟩ := h
  refine sa_113 gd_Model_exchange_82 hF q4310 q4311 (fun hF => ?_)
  refine gh_aload_n gd_Model_exchange_83 6 rfl (by decide) ?_
  refine gf_63_77 gd_Model_exchange_84 gh_k1444 hF ?_
  refine gh_iload_n gd_Model_exchange_87 7 rfl ?_
  refine gh_aload_n gd_Model_exchange_88 6 rfl (by decide) ?_
  refine gf_63_77 gd_Model_exchange_89 gh_k1444 hF ?_
  refine gh_iload_n gd_Model_exchange_92 8 rfl ?_
  obtain ⟨q4312, h⟩ := h
  obtain ⟨q4313, h⟩ := h
  refine la_114 gd_Model_exchange_93 hF q4312 q4313 ((gh_u_a (by decide)).trans ((gh_u_a (by decide)).trans (gh_u_a (by decide)))) ?_
  obtain ⟨q4314, h⟩ := h
  obtain ⟨q4315, h⟩ := h
  refine sa_114 gd_Model_exchange_94 hF q4314 q4315 (fun hF => ?_)
  refine gh_aload_n gd_Model_exchange_95 6 rfl (by decide) ?_
  refine gf_63_78 gd_Model_exchange_96 gh_k1445 hF ?_
  refine gh_iload_n gd_Model_exchange_99 7 rfl ?_
  refine gh_aload_n gd_Model_exchange_100 6 rfl (by decide) ?_
  refine gf_63_78 gd_Model_exchange_101 gh_k1445 hF ?_
  refine gh_iload_n gd_Model_exchange_104 8 rfl ?_
  obtain ⟨q4316, h⟩ := h
  obtain ⟨q4317, h⟩ := h
  refine la_115 gd_Model_exchange_105 hF q4316 q4317 ((gh_u_a (by decide)).trans ((gh_u_a (by decide)).trans ((gh_u_a (by decide)).trans (gh_u_a (by decide))))) ?_
  obtain ⟨q4318, h⟩ := h
  obtain ⟨q4319, h⟩ := h
  refine sa_115 gd_Model_exchange_106 hF q4318 q4319 (fun hF => ?_)
  refine gh_aload_n gd_Model_exchange_107 6 rfl (by decide) ?_
  refine gf_63_79 gd_Model_exchange_108 gh_k1446 hF ?_
  refine gh_iload_n gd_Model_exchange_111 7 rfl ?_
  refine gh_aload_n gd_Model_exchange_112 6 rfl (by decide) ?_
  refine gf_63_79 gd_Model_exchange_113 gh_k1446 hF ?_
  refine gh_iload_n gd_Model_exchange_116 8 rfl ?_
  obtain ⟨q4320, h⟩ := h
  obtain ⟨q4321, h⟩ := h
  refine la_116 gd_Model_exchange_117 hF q4320 q4321 ((gh_u_a (by decide)).trans ((gh_u_a (by decide)).trans ((gh_u_a (by decide)).trans ((gh_u_a (by decide)).trans (gh_u_a (by decide)))))) ?_
  obtain ⟨q4322, h⟩ := h
  obtain ⟨q4323, h⟩ := h
  refine sa_116 gd_Model_exchange_118 hF q4322 q4323 (fun hF => ?_)
  refine gh_aload_n gd_Model_exchange_119 6 rfl (by decide) ?_
  refine gf_63_74 gd_Model_exchange_120 gh_k1441 hF ?_
  refine gh_iload_n gd_Model_exchange_123 8 rfl ?_
  refine gh_iload_n gd_Model_exchange_124 5 rfl ?_
  obtain ⟨q4324, h⟩ := h
  obtain ⟨q4325, h⟩ := h
  refine sa_111 gd_Model_exchange_125 hF q4324 q4325 (fun hF => ?_)
  refine gh_aload_n gd_Model_exchange_126 6 rfl (by decide) ?_
  refine gf_63_75 gd_Model_exchange_127 gh_k1442 hF ?_
  refine gh_iload_n gd_Model_exchange_130 8 rfl ?_
  refine gh_iload gd_Model_exchange_131 4 rfl ?_
  obtain ⟨q4326, h⟩ := h
  obtain ⟨q4327, h⟩ := h
  refine sa_112 gd_Model_exchange_133 hF q4326 q4327 (fun hF => ?_)
  refine gh_aload_n gd_Model_exchange_134 6 rfl (by decide) ?_
  refine gf_63_76 gd_Model_exchange_135 gh_k1443 hF ?_
  refine gh_iload_n gd_Model_exchange_138 8 rfl ?_
  refine gh_iload gd_Model_exchange_139 3 rfl ?_
  obtain ⟨q4328, h⟩ := h
  obtain ⟨q4329, h⟩ := h
  refine sa_113 gd_Model_exchange_141 hF q4328 q4329 (fun hF => ?_)
  refine gh_aload_n gd_Model_exchange_142 6 rfl (by decide) ?_
  refine gf_63_77 gd_Model_exchange_143 gh_k1444 hF ?_
  refine gh_iload_n gd_Model_exchange_146 8 rfl ?_
  refine gh_iload gd_Model_exchange_147 2 rfl ?_
  obtain ⟨q4330, h⟩ := h
  obtain ⟨q4331, h⟩ := h
  refine sa_114 gd_Model_exchange_149 hF q4330 q4331 (fun hF => ?_)
  refine gh_aload_n gd_Model_exchange_150 6 rfl (by decide) ?_
  refine gf_63_78 gd_Model_exchange_151 gh_k1445 hF ?_
  refine gh_iload_n gd_Model_exchange_154 8 rfl ?_
  refine gh_iload gd_Model_exchange_155 1 rfl ?_
  obtain ⟨q4332, h⟩ := h
  obtain ⟨q4333, h⟩ := h
  refine sa_115 gd_Model_exchange_157 hF q4332 q4333 (fun hF => ?_)
  refine gh_aload_n gd_Model_exchange_158 6 rfl (by decide) ?_
  refine gf_63_79 gd_Model_exchange_159 gh_k1446 hF ?_
  refine gh_iload_n gd_Model_exchange_162 8 rfl ?_
  refine gh_lload gd_Model_exchange_163 0 rfl ?_
  obtain ⟨q4334, h⟩ := h
  obtain ⟨q4335, h⟩ := h
  refine sa_116 gd_Model_exchange_165 hF q4334 q4335 (fun hF => ?_)
  exact gh_ret9 rfl gd_Model_exchange_166 ⟨hF, h⟩
def f_Model_openParts_79 (v1 : Int) (v2 : Int) (v3 : Int) (v4 : Int) (v5 : Int) (v8 : Int) (v9 : Int) (v12 : Int) (v13 : Int) (K16 : Int → Int → Int → gh_M → Prop) (m : gh_M) (K79 : Int → Int → Int → Prop) (v10 : Int) (v14 : Int) (v15 : Int) : Prop := ((v10 < v15 → gh_i (9 * v12) ∧ gh_i ((9 * v12) + 9) ∧ gh_i (((9 * v12) + 9) + v14) ∧ 0 ≤ ((9 * v12) + 9) + v14 ∧ (((9 * v12) + 9) + v14) < 45 ∧ ∀ v17 : Int, v17 = m 108 (((9 * v12) + 9) + v14) → ∀ v19 : Int, v19 = (if ((v9 = v2) ∧ (v14 = v3)) then (1:Int) else 0) → ∃ J231 : gh_M → Prop, (∀ (m : gh_M), J231 m → 0 ≤ v10 ∧ 0 < v17 ∧ ∀ v10' : Int, v10' = v10 % v17 → gh_i (v12 + 1) ∧ K16 v14 v10' (v12 + 1) m) ∧ ((v13 ≤ 0 → gh_i ((-1) - v13) ∧ 0 ≤ v10 ∧ 0 < v17 ∧ w_Model_opn ((-1) - v13) v9 v14 (if v19 = 0 then 0 else v4) v5 (v10 / v17) m (fun _ m4369 => J231 m4369)) ∧ (¬ (v13 ≤ 0) → 0 ≤ v9 ∧ v9 < 8 ∧ gh_i ((-1) - (m 96 v9)) ∧ w_Model_opn ((-1) - (m 96 v9)) v9 v14 0 v5 0 m (fun _ m4375 => J231 m4375)))) ∧ (¬ (v10 < v15) → gh_j (v10 - v15) ∧ ∀ v10' : Int, v10' = v10 - v15 → gh_i (v14 + 1) ∧ w_Model_countOf v13 v9 (v14 + 1) v2 v3 v4 m (fun r4380 => gh_i (9 * v12) ∧ gh_i ((9 * v12) + 9) ∧ gh_i (((9 * v12) + 9) + (v14 + 1)) ∧ 0 ≤ ((9 * v12) + 9) + (v14 + 1) ∧ (((9 * v12) + 9) + (v14 + 1)) < 45 ∧ k_Model_times r4380 (m 108 (((9 * v12) + 9) + (v14 + 1))) ∧ ∀ v15' : Int, v15' = x_Model_times r4380 (m 108 (((9 * v12) + 9) + (v14 + 1))) → K79 v10' (v14 + 1) v15')))
def f_Model_openParts_251 (v8 : Int) (Q : Int → gh_M → Prop) (K251 : Int → gh_M → Prop) (v12 : Int) (m : gh_M) : Prop := gh_i ((m 63 80) - v8) ∧ 0 ≤ (m 63 80) - v8 ∧ ((v12 < (((m 63 80) - v8) / 2) → gh_i (v8 + v12) ∧ gh_i ((m 63 80) - 1) ∧ gh_i (((m 63 80) - 1) - v12) ∧ w_Model_exchange (v8 + v12) (((m 63 80) - 1) - v12) m (fun _ m4395 => gh_i (v12 + 1) ∧ K251 (v12 + 1) m4395)) ∧ (¬ (v12 < (((m 63 80) - v8) / 2)) → Q 0 m))
def f_Model_openParts_16 (v1 : Int) (v2 : Int) (v3 : Int) (v4 : Int) (v5 : Int) (v8 : Int) (Q : Int → gh_M → Prop) (K16 : Int → Int → Int → gh_M → Prop) (v9 : Int) (v10 : Int) (v12 : Int) (m : gh_M) : Prop := 0 ≤ v1 ∧ v1 < 20 ∧ ((v12 < (m 80 v1) → gh_i (4 * v1) ∧ gh_i ((4 * v1) + v12) ∧ 0 ≤ (4 * v1) + v12 ∧ ((4 * v1) + v12) < 80 ∧ ∀ v13 : Int, v13 = m 81 ((4 * v1) + v12) → w_Model_countOf v13 v9 v9 v2 v3 v4 m (fun r4343 => gh_i (9 * v12) ∧ gh_i ((9 * v12) + 9) ∧ gh_i (((9 * v12) + 9) + v9) ∧ 0 ≤ ((9 * v12) + 9) + v9 ∧ (((9 * v12) + 9) + v9) < 45 ∧ k_Model_times r4343 (m 108 (((9 * v12) + 9) + v9)) ∧ ∀ v15 : Int, v15 = x_Model_times r4343 (m 108 (((9 * v12) + 9) + v9)) → gh_L3 (fun K79 v10 v14 v15 => f_Model_openParts_79 v1 v2 v3 v4 v5 v8 v9 v12 v13 K16 m K79 v10 v14 v15) v10 v9 v15)) ∧ (¬ (v12 < (m 80 v1)) → gh_M1 (fun K251 v12 m => f_Model_openParts_251 v8 Q K251 v12 m) 0 m))
def w_Model_openParts (v1 : Int) (v2 : Int) (v3 : Int) (v4 : Int) (v5 : Int) (v6 : Int) (m : gh_M) (Q : Int → gh_M → Prop) : Prop := ∀ v8 : Int, v8 = m 63 80 → gh_M3 (fun K16 v9 v10 v12 m => f_Model_openParts_16 v1 v2 v3 v4 v5 v8 Q K16 v9 v10 v12 m) v2 v6 0 m
theorem b_Model_openParts_79 {E : gh_E} {v1 : Int} {v2 : Int} {v3 : Int} {v4 : Int} {v5 : Int} {v8 : Int} {v9 : Int} {v12 : Int} {v13 : Int} {K16 : Int → Int → Int → gh_M → Prop} {Q : Int → gh_M → Prop} {K79 : Int → Int → Int → Prop} (d : Nat) {m : gh_M} (hK16 : ∀ (v9 : Int) (v10 : Int) (v12 : Int) (m : gh_M), gh_F m → K16 v9 v10 v12 m → gh_T E (gh_yModel_openParts.cls, prog_14_method_99_code, 20, false, 9) (d + 3) 16 [(0, 2, 63), (1, 0, v1), (2, 0, v2), (3, 0, v3), (4, 0, v4), (5, 0, v5), (8, 0, v8), (9, 0, v9), (10, 1, v10), (12, 0, v12)] [] m (fun r m1 => gh_F m1 ∧ Q r m1)) (hK : ∀ (v10 : Int) (v14 : Int) (v15 : Int), gh_F m → K79 v10 v14 v15 → gh_T E (gh_yModel_openParts.cls, prog_14_method_99_code, 20, false, 9) (d + 3) 79 [(0, 2, 63), (1, 0, v1), (2, 0, v2), (3, 0, v3), (4, 0, v4), (5, 0, v5), (8, 0, v8), (9, 0, v9), (10, 1, v10), (12, 0, v12), (13, 0, v13), (14, 0, v14), (15, 1, v15)] [] m (fun r m1 => gh_F m1 ∧ Q r m1)) (v10 : Int) (v14 : Int) (v15 : Int) (hF : gh_F m) (h : f_Model_openParts_79 v1 v2 v3 v4 v5 v8 v9 v12 v13 K16 m K79 v10 v14 v15) : gh_T E (gh_yModel_openParts.cls, prog_14_method_99_code, 20, false, 9) (d + 3) 79 [(0, 2, 63), (1, 0, v1), (2, 0, v2), (3, 0, v3), (4, 0, v4), (5, 0, v5), (8, 0, v8), (9, 0, v9), (10, 1, v10), (12, 0, v12), (13, 0, v13), (14, 0, v14), (15, 1, v15)] [] m (fun r m1 => gh_F m1 ∧ Q r m1) := by
  have hK79 := hK
  unfold f_Model_openParts_79 at h
  refine gh_lload gd_Model_openParts_79 8 rfl ?_
  refine gh_lload gd_Model_openParts_81 12 rfl ?_
  refine gh_lcmp gd_Model_openParts_83 ?_
  obtain ⟨hA, hB⟩ := h
  refine gh_clt (tgt := 135) gd_Model_openParts_84 (by decide) (fun c4351 => ?_) (fun c4351 => ?_)
  · have h := hA c4351
    refine gh_aload_n gd_Model_openParts_135 0 rfl (by decide) ?_
    refine gf_63_67 gd_Model_openParts_136 gh_k1434 hF ?_
    refine gh_bipush gd_Model_openParts_139 (by decide) (gh_r0 rfl) ?_
    refine gh_iload gd_Model_openParts_141 9 rfl ?_
    obtain ⟨q4352, h⟩ := h
    refine gh_imul gd_Model_openParts_143 q4352 ?_
    refine gh_bipush gd_Model_openParts_144 (by decide) (gh_r0 rfl) ?_
    obtain ⟨q4353, h⟩ := h
    refine gh_iadd gd_Model_openParts_146 q4353 ?_
    refine gh_iload gd_Model_openParts_147 11 rfl ?_
    obtain ⟨q4354, h⟩ := h
    refine gh_iadd gd_Model_openParts_149 q4354 ?_
    obtain ⟨q4355, h⟩ := h
    obtain ⟨q4356, h⟩ := h
    refine la_108 gd_Model_openParts_150 hF q4355 q4356 rfl ?_
    refine gh_name (fun v17 hn => ?_)
    have h := h v17 hn
    refine gh_lstore (L2 := [(17, 1, v17), (0, 2, 63), (1, 0, v1), (2, 0, v2), (3, 0, v3), (4, 0, v4), (5, 0, v5), (8, 0, v8), (9, 0, v9), (10, 1, v10), (12, 0, v12), (13, 0, v13), (14, 0, v14), (15, 1, v15)]) gd_Model_openParts_151 (by decide) rfl ?_
    refine gh_iload gd_Model_openParts_153 8 rfl ?_
    refine gh_iload_n gd_Model_openParts_155 3 rfl ?_
    have k4357 : ∀ x4358 : Int, x4358 = (if ((v9 = v2) ∧ (v14 = v3)) then (1:Int) else 0) → gh_T E (gh_yModel_openParts.cls, prog_14_method_99_code, 20, false, 9) (d + 3) 170 [(17, 1, v17), (0, 2, 63), (1, 0, v1), (2, 0, v2), (3, 0, v3), (4, 0, v4), (5, 0, v5), (8, 0, v8), (9, 0, v9), (10, 1, v10), (12, 0, v12), (13, 0, v13), (14, 0, v14), (15, 1, v15)] [(0, x4358)] m (fun r m1 => gh_F m1 ∧ Q r m1) := by
      rintro _ rfl
      refine gh_name (fun v19 hn => ?_)
      have h := h v19 hn
      refine gh_istore (L2 := [(19, 0, v19), (17, 1, v17), (0, 2, 63), (1, 0, v1), (2, 0, v2), (3, 0, v3), (4, 0, v4), (5, 0, v5), (8, 0, v8), (9, 0, v9), (10, 1, v10), (12, 0, v12), (13, 0, v13), (14, 0, v14), (15, 1, v15)]) gd_Model_openParts_170 (by decide) rfl ?_
      refine gh_iload gd_Model_openParts_172 12 rfl ?_
      obtain ⟨J231, hJ231, h⟩ := h
      have hJ231 : ∀ (m : gh_M), gh_F m → J231 m → gh_T E (gh_yModel_openParts.cls, prog_14_method_99_code, 20, false, 9) (d + 3) 231 [(0, 2, 63), (1, 0, v1), (2, 0, v2), (3, 0, v3), (4, 0, v4), (5, 0, v5), (8, 0, v8), (10, 1, v10), (12, 0, v12), (14, 0, v14), (17, 1, v17)] [] m (fun r m1 => gh_F m1 ∧ Q r m1) := by
        intro m hF hj
        have h := hJ231 m hj
        refine gh_lload gd_Model_openParts_231 7 rfl ?_
        refine gh_lload gd_Model_openParts_233 10 rfl ?_
        obtain ⟨q4359, h⟩ := h
        obtain ⟨q4360, h⟩ := h
        refine gh_lrem gd_Model_openParts_235 q4359 q4360 ?_
        refine gh_name (fun v10' hn => ?_)
        have h := h v10' hn
        refine gh_lstore (L2 := [(10, 1, v10'), (0, 2, 63), (1, 0, v1), (2, 0, v2), (3, 0, v3), (4, 0, v4), (5, 0, v5), (8, 0, v8), (12, 0, v12), (14, 0, v14), (17, 1, v17)]) gd_Model_openParts_236 (by decide) rfl ?_
        refine gh_iload gd_Model_openParts_238 9 rfl ?_
        refine gh_istore (L2 := [(9, 0, v14), (10, 1, v10'), (0, 2, 63), (1, 0, v1), (2, 0, v2), (3, 0, v3), (4, 0, v4), (5, 0, v5), (8, 0, v8), (12, 0, v12), (14, 0, v14), (17, 1, v17)]) gd_Model_openParts_240 (by decide) rfl ?_
        obtain ⟨q4361, h⟩ := h
        refine gh_iinc (L2 := [(12, 0, v12 + 1), (9, 0, v14), (10, 1, v10'), (0, 2, 63), (1, 0, v1), (2, 0, v2), (3, 0, v3), (4, 0, v4), (5, 0, v5), (8, 0, v8), (14, 0, v14), (17, 1, v17)]) gd_Model_openParts_242 9 rfl q4361 (by decide) rfl ?_
        refine gh_goto (tgt := 16) gd_Model_openParts_245 (by decide) ?_
        refine gh_pick (L2 := [(0, 2, 63), (1, 0, v1), (2, 0, v2), (3, 0, v3), (4, 0, v4), (5, 0, v5), (8, 0, v8), (9, 0, v14), (10, 1, v10'), (12, 0, v12 + 1)]) [3, 4, 5, 6, 7, 8, 9, 1, 2, 0] rfl ?_
        exact hK16 v14 v10' (v12 + 1) m hF h
      obtain ⟨hA, hB⟩ := h
      refine gh_zle (tgt := 201) gd_Model_openParts_174 (by decide) (fun c4362 => ?_) (fun c4362 => ?_)
      · have h := hA c4362
        refine gh_aload_n gd_Model_openParts_201 2 rfl (by decide) ?_
        refine gh_iconst gd_Model_openParts_202 (gh_r0 rfl) ?_
        refine gh_iload gd_Model_openParts_203 12 rfl ?_
        obtain ⟨q4363, h⟩ := h
        refine gh_isub gd_Model_openParts_205 q4363 ?_
        refine gh_iload gd_Model_openParts_206 9 rfl ?_
        refine gh_iload gd_Model_openParts_208 13 rfl ?_
        refine gh_iload gd_Model_openParts_210 0 rfl ?_
        have k4364 : ∀ x4365 : Int, x4365 = (if v19 = 0 then 0 else v4) → gh_T E (gh_yModel_openParts.cls, prog_14_method_99_code, 20, false, 9) (d + 3) 221 [(19, 0, v19), (17, 1, v17), (0, 2, 63), (1, 0, v1), (2, 0, v2), (3, 0, v3), (4, 0, v4), (5, 0, v5), (8, 0, v8), (9, 0, v9), (10, 1, v10), (12, 0, v12), (13, 0, v13), (14, 0, v14), (15, 1, v15)] [(0, x4365), (0, v14), (0, v9), (0, (-1) - v13), (2, 63)] m (fun r m1 => gh_F m1 ∧ Q r m1) := by
          rintro _ rfl
          refine gh_iload gd_Model_openParts_221 7 rfl ?_
          refine gh_lload gd_Model_openParts_223 10 rfl ?_
          refine gh_lload gd_Model_openParts_225 1 rfl ?_
          obtain ⟨q4366, h⟩ := h
          obtain ⟨q4367, h⟩ := h
          refine gh_ldiv gd_Model_openParts_227 q4366 q4367 ?_
          refine cv_Model_opn (d := d + 2) gd_Model_openParts_228 gh_k2010 hF (Nat.le_of_ble_eq_true rfl) (gh_C.mono (s_Model_opn (d + 2) ((-1) - v13) v9 v14 (if v19 = 0 then 0 else v4) v5 (v10 / v17) hF h) (fun r4368 m4369 hq => ?_))
          obtain ⟨hF, h⟩ := hq
          refine gh_pick (L2 := [(0, 2, 63), (1, 0, v1), (2, 0, v2), (3, 0, v3), (4, 0, v4), (5, 0, v5), (8, 0, v8), (10, 1, v10), (12, 0, v12), (14, 0, v14), (17, 1, v17)]) [2, 3, 4, 5, 6, 7, 8, 10, 11, 13, 1] rfl ?_
          exact hJ231 m4369 hF h
        refine gh_zeq (tgt := 220) gd_Model_openParts_212 (by decide) (fun c4370 => ?_) (fun c4370 => ?_)
        · have hz : True := trivial
          refine gh_iconst gd_Model_openParts_220 (gh_r0 rfl) ?_
          exact k4364 _ (by rw [if_pos c4370])
        · have hz : True := trivial
          refine gh_iload gd_Model_openParts_215 6 rfl ?_
          refine gh_goto (tgt := 221) gd_Model_openParts_217 (by decide) ?_
          exact k4364 _ (by rw [if_neg c4370])
      · have h := hB c4362
        refine gh_aload_n gd_Model_openParts_177 2 rfl (by decide) ?_
        refine gh_iconst gd_Model_openParts_178 (gh_r0 rfl) ?_
        refine gh_aload_n gd_Model_openParts_179 2 rfl (by decide) ?_
        refine gf_63_51 gd_Model_openParts_180 gh_k1418 hF ?_
        refine gh_iload gd_Model_openParts_183 9 rfl ?_
        obtain ⟨q4371, h⟩ := h
        obtain ⟨q4372, h⟩ := h
        refine la_96 gd_Model_openParts_185 hF q4371 q4372 rfl ?_
        obtain ⟨q4373, h⟩ := h
        refine gh_isub gd_Model_openParts_186 q4373 ?_
        refine gh_iload gd_Model_openParts_187 9 rfl ?_
        refine gh_iload gd_Model_openParts_189 13 rfl ?_
        refine gh_iconst gd_Model_openParts_191 (gh_r0 rfl) ?_
        refine gh_iload gd_Model_openParts_192 7 rfl ?_
        refine gh_lconst (n := 0) gd_Model_openParts_194 (by decide) (gh_r1 rfl) ?_
        refine cv_Model_opn (d := d + 2) gd_Model_openParts_195 gh_k2010 hF (Nat.le_of_ble_eq_true rfl) (gh_C.mono (s_Model_opn (d + 2) ((-1) - (m 96 v9)) v9 v14 0 v5 0 hF h) (fun r4374 m4375 hq => ?_))
        obtain ⟨hF, h⟩ := hq
        refine gh_goto (tgt := 231) gd_Model_openParts_198 (by decide) ?_
        refine gh_pick (L2 := [(0, 2, 63), (1, 0, v1), (2, 0, v2), (3, 0, v3), (4, 0, v4), (5, 0, v5), (8, 0, v8), (10, 1, v10), (12, 0, v12), (14, 0, v14), (17, 1, v17)]) [2, 3, 4, 5, 6, 7, 8, 10, 11, 13, 1] rfl ?_
        exact hJ231 m4375 hF h
    refine gh_jne (tgt := 169) gd_Model_openParts_156 (by decide) (fun c4376 => ?_) (fun c4376 => ?_)
    · have hz : True := trivial
      refine gh_iload gd_Model_openParts_159 12 rfl ?_
      refine gh_iload_n gd_Model_openParts_161 4 rfl ?_
      refine gh_jne (tgt := 169) gd_Model_openParts_162 (by decide) (fun c4377 => ?_) (fun c4377 => ?_)
      · have hz : True := trivial
        refine gh_iconst gd_Model_openParts_165 (gh_r0 rfl) ?_
        refine gh_goto (tgt := 170) gd_Model_openParts_166 (by decide) ?_
        exact k4357 _ (if_pos (c := ((v9 = v2) ∧ (v14 = v3))) ⟨c4376, c4377⟩).symm
      · have hz : True := trivial
        refine gh_iconst gd_Model_openParts_169 (gh_r0 rfl) ?_
        exact k4357 _ (if_neg (c := ((v9 = v2) ∧ (v14 = v3))) (fun z => c4377 z.2)).symm
    · have hz : True := trivial
      refine gh_iconst gd_Model_openParts_169 (gh_r0 rfl) ?_
      exact k4357 _ (if_neg (c := ((v9 = v2) ∧ (v14 = v3))) (fun z => c4376 z.1)).symm
  · have h := hB c4351
    refine gh_lload gd_Model_openParts_87 8 rfl ?_
    refine gh_lload gd_Model_openParts_89 12 rfl ?_
    obtain ⟨q4378, h⟩ := h
    refine gh_lsub gd_Model_openParts_91 q4378 ?_
    refine gh_name (fun v10' hn => ?_)
    have h := h v10' hn
    refine gh_lstore (L2 := [(10, 1, v10'), (0, 2, 63), (1, 0, v1), (2, 0, v2), (3, 0, v3), (4, 0, v4), (5, 0, v5), (8, 0, v8), (9, 0, v9), (12, 0, v12), (13, 0, v13), (14, 0, v14), (15, 1, v15)]) gd_Model_openParts_92 (by decide) rfl ?_
    obtain ⟨q4379, h⟩ := h
    refine gh_iinc (L2 := [(14, 0, v14 + 1), (10, 1, v10'), (0, 2, 63), (1, 0, v1), (2, 0, v2), (3, 0, v3), (4, 0, v4), (5, 0, v5), (8, 0, v8), (9, 0, v9), (12, 0, v12), (13, 0, v13), (15, 1, v15)]) gd_Model_openParts_94 11 rfl q4379 (by decide) rfl ?_
    refine gh_aload_n gd_Model_openParts_97 2 rfl (by decide) ?_
    refine gh_iload gd_Model_openParts_98 11 rfl ?_
    refine gh_iload gd_Model_openParts_100 9 rfl ?_
    refine gh_iload gd_Model_openParts_102 0 rfl ?_
    refine gh_iload_n gd_Model_openParts_104 4 rfl ?_
    refine gh_iload_n gd_Model_openParts_105 5 rfl ?_
    refine gh_iload gd_Model_openParts_106 6 rfl ?_
    refine cv_Model_countOf (d := d + 2) gd_Model_openParts_108 gh_k1993 hF (Nat.le_of_ble_eq_true rfl) (gh_C.pw (s_Model_countOf d v13 v9 (v14 + 1) v2 v3 v4 hF h) (fun r4380 h => ?_))
    refine gh_aload_n gd_Model_openParts_111 2 rfl (by decide) ?_
    refine gf_63_67 gd_Model_openParts_112 gh_k1434 hF ?_
    refine gh_bipush gd_Model_openParts_115 (by decide) (gh_r0 rfl) ?_
    refine gh_iload gd_Model_openParts_117 10 rfl ?_
    obtain ⟨q4382, h⟩ := h
    refine gh_imul gd_Model_openParts_119 q4382 ?_
    refine gh_bipush gd_Model_openParts_120 (by decide) (gh_r0 rfl) ?_
    obtain ⟨q4383, h⟩ := h
    refine gh_iadd gd_Model_openParts_122 q4383 ?_
    refine gh_iload gd_Model_openParts_123 0 rfl ?_
    obtain ⟨q4384, h⟩ := h
    refine gh_iadd gd_Model_openParts_125 q4384 ?_
    obtain ⟨q4385, h⟩ := h
    obtain ⟨q4386, h⟩ := h
    refine la_108 gd_Model_openParts_126 hF q4385 q4386 rfl ?_
    obtain ⟨q4387, h⟩ := h
    refine cv_Model_times (d := d + 2) gd_Model_openParts_127 gh_k1997 (Nat.le_of_ble_eq_true rfl) (gh_C.pe (e_Model_times (d + 2) r4380 (m 108 (((9 * v12) + 9) + (v14 + 1))) q4387) ?_)
    refine gh_name (fun v15' hn => ?_)
    have h := h v15' hn
    refine gh_lstore (L2 := [(15, 1, v15'), (14, 0, v14 + 1), (10, 1, v10'), (0, 2, 63), (1, 0, v1), (2, 0, v2), (3, 0, v3), (4, 0, v4), (5, 0, v5), (8, 0, v8), (9, 0, v9), (12, 0, v12), (13, 0, v13)]) gd_Model_openParts_130 (by decide) rfl ?_
    refine gh_goto (tgt := 79) gd_Model_openParts_132 (by decide) ?_
    refine gh_pick (L2 := [(0, 2, 63), (1, 0, v1), (2, 0, v2), (3, 0, v3), (4, 0, v4), (5, 0, v5), (8, 0, v8), (9, 0, v9), (10, 1, v10'), (12, 0, v12), (13, 0, v13), (14, 0, v14 + 1), (15, 1, v15')]) [3, 4, 5, 6, 7, 8, 9, 10, 2, 11, 12, 1, 0] rfl ?_
    exact hK79 v10' (v14 + 1) v15' hF h
theorem b_Model_openParts_251 {E : gh_E} {v8 : Int} {Q : Int → gh_M → Prop} {K251 : Int → gh_M → Prop} (d : Nat) (hK : ∀ (v12 : Int) (m : gh_M), gh_F m → K251 v12 m → gh_T E (gh_yModel_openParts.cls, prog_14_method_99_code, 20, false, 9) (d + 3) 251 [(0, 2, 63), (8, 0, v8), (12, 0, v12)] [] m (fun r m1 => gh_F m1 ∧ Q r m1)) (v12 : Int) (m : gh_M) (hF : gh_F m) (h : f_Model_openParts_251 v8 Q K251 v12 m) : gh_T E (gh_yModel_openParts.cls, prog_14_method_99_code, 20, false, 9) (d + 3) 251 [(0, 2, 63), (8, 0, v8), (12, 0, v12)] [] m (fun r m1 => gh_F m1 ∧ Q r m1) := by
  have hK251 := hK
  unfold f_Model_openParts_251 at h
  refine gh_iload gd_Model_openParts_251 2 rfl ?_
  refine gh_aload_n gd_Model_openParts_253 0 rfl (by decide) ?_
  refine gf_63_80 gd_Model_openParts_254 gh_k1447 hF rfl ?_
  refine gh_iload gd_Model_openParts_257 1 rfl ?_
  obtain ⟨q4388, h⟩ := h
  refine gh_isub gd_Model_openParts_259 q4388 ?_
  refine gh_iconst gd_Model_openParts_260 (gh_r0 rfl) ?_
  obtain ⟨q4389, h⟩ := h
  refine gh_idiv gd_Model_openParts_261 q4389 (by decide) ?_
  obtain ⟨hA, hB⟩ := h
  refine gh_jge (tgt := 289) gd_Model_openParts_262 (by decide) (fun c4390 => ?_) (fun c4390 => ?_)
  · have h := hA c4390
    refine gh_aload_n gd_Model_openParts_265 0 rfl (by decide) ?_
    refine gh_iload gd_Model_openParts_266 1 rfl ?_
    refine gh_iload gd_Model_openParts_268 2 rfl ?_
    obtain ⟨q4391, h⟩ := h
    refine gh_iadd gd_Model_openParts_270 q4391 ?_
    refine gh_aload_n gd_Model_openParts_271 0 rfl (by decide) ?_
    refine gf_63_80 gd_Model_openParts_272 gh_k1447 hF rfl ?_
    refine gh_iconst gd_Model_openParts_275 (gh_r0 rfl) ?_
    obtain ⟨q4392, h⟩ := h
    refine gh_isub gd_Model_openParts_276 q4392 ?_
    refine gh_iload gd_Model_openParts_277 2 rfl ?_
    obtain ⟨q4393, h⟩ := h
    refine gh_isub gd_Model_openParts_279 q4393 ?_
    refine cv_Model_exchange (d := d + 2) gd_Model_openParts_280 gh_k2022 hF (Nat.le_of_ble_eq_true rfl) (gh_C.mono (s_Model_exchange (d + 2) (v8 + v12) (((m 63 80) - 1) - v12) hF h) (fun r4394 m4395 hq => ?_))
    obtain ⟨hF, h⟩ := hq
    obtain ⟨q4396, h⟩ := h
    refine gh_iinc (L2 := [(12, 0, v12 + 1), (0, 2, 63), (8, 0, v8)]) gd_Model_openParts_283 2 rfl q4396 (by decide) rfl ?_
    refine gh_goto (tgt := 251) gd_Model_openParts_286 (by decide) ?_
    refine gh_pick (L2 := [(0, 2, 63), (8, 0, v8), (12, 0, v12 + 1)]) [1, 2, 0] rfl ?_
    exact hK251 (v12 + 1) m4395 hF h
  · have h := hB c4390
    exact gh_ret9 rfl gd_Model_openParts_289 ⟨hF, h⟩
theorem b_Model_openParts_16 {E : gh_E} {v1 : Int} {v2 : Int} {v3 : Int} {v4 : Int} {v5 : Int} {v8 : Int} {Q : Int → gh_M → Prop} {K16 : Int → Int → Int → gh_M → Prop} (d : Nat) (hK : ∀ (v9 : Int) (v10 : Int) (v12 : Int) (m : gh_M), gh_F m → K16 v9 v10 v12 m → gh_T E (gh_yModel_openParts.cls, prog_14_method_99_code, 20, false, 9) (d + 3) 16 [(0, 2, 63), (1, 0, v1), (2, 0, v2), (3, 0, v3), (4, 0, v4), (5, 0, v5), (8, 0, v8), (9, 0, v9), (10, 1, v10), (12, 0, v12)] [] m (fun r m1 => gh_F m1 ∧ Q r m1)) (v9 : Int) (v10 : Int) (v12 : Int) (m : gh_M) (hF : gh_F m) (h : f_Model_openParts_16 v1 v2 v3 v4 v5 v8 Q K16 v9 v10 v12 m) : gh_T E (gh_yModel_openParts.cls, prog_14_method_99_code, 20, false, 9) (d + 3) 16 [(0, 2, 63), (1, 0, v1), (2, 0, v2), (3, 0, v3), (4, 0, v4), (5, 0, v5), (8, 0, v8), (9, 0, v9), (10, 1, v10), (12, 0, v12)] [] m (fun r m1 => gh_F m1 ∧ Q r m1) := by
  have hK16 := hK
  unfold f_Model_openParts_16 at h
  refine gh_iload gd_Model_openParts_16 9 rfl ?_
  refine gh_aload_n gd_Model_openParts_18 0 rfl (by decide) ?_
  refine gf_63_33 gd_Model_openParts_19 gh_k1400 hF ?_
  refine gh_iload_n gd_Model_openParts_22 1 rfl ?_
  obtain ⟨q4336, h⟩ := h
  obtain ⟨q4337, h⟩ := h
  refine la_80 gd_Model_openParts_23 hF q4336 q4337 rfl ?_
  obtain ⟨hA, hB⟩ := h
  refine gh_jge (tgt := 248) gd_Model_openParts_24 (by decide) (fun c4338 => ?_) (fun c4338 => ?_)
  · have h := hA c4338
    refine gh_aload_n gd_Model_openParts_27 0 rfl (by decide) ?_
    refine gf_63_34 gd_Model_openParts_28 gh_k1401 hF ?_
    refine gh_iconst gd_Model_openParts_31 (gh_r0 rfl) ?_
    refine gh_iload_n gd_Model_openParts_32 1 rfl ?_
    obtain ⟨q4339, h⟩ := h
    refine gh_imul gd_Model_openParts_33 q4339 ?_
    refine gh_iload gd_Model_openParts_34 9 rfl ?_
    obtain ⟨q4340, h⟩ := h
    refine gh_iadd gd_Model_openParts_36 q4340 ?_
    obtain ⟨q4341, h⟩ := h
    obtain ⟨q4342, h⟩ := h
    refine la_81 gd_Model_openParts_37 hF q4341 q4342 rfl ?_
    refine gh_name (fun v13 hn => ?_)
    have h := h v13 hn
    refine gh_istore (L2 := [(13, 0, v13), (0, 2, 63), (1, 0, v1), (2, 0, v2), (3, 0, v3), (4, 0, v4), (5, 0, v5), (8, 0, v8), (9, 0, v9), (10, 1, v10), (12, 0, v12)]) gd_Model_openParts_38 (by decide) rfl ?_
    refine gh_iload gd_Model_openParts_40 8 rfl ?_
    refine gh_istore (L2 := [(14, 0, v9), (13, 0, v13), (0, 2, 63), (1, 0, v1), (2, 0, v2), (3, 0, v3), (4, 0, v4), (5, 0, v5), (8, 0, v8), (9, 0, v9), (10, 1, v10), (12, 0, v12)]) gd_Model_openParts_42 (by decide) rfl ?_
    refine gh_aload_n gd_Model_openParts_44 2 rfl (by decide) ?_
    refine gh_iload gd_Model_openParts_45 1 rfl ?_
    refine gh_iload gd_Model_openParts_47 9 rfl ?_
    refine gh_iload gd_Model_openParts_49 0 rfl ?_
    refine gh_iload_n gd_Model_openParts_51 4 rfl ?_
    refine gh_iload_n gd_Model_openParts_52 5 rfl ?_
    refine gh_iload gd_Model_openParts_53 6 rfl ?_
    refine cv_Model_countOf (d := d + 2) gd_Model_openParts_55 gh_k1993 hF (Nat.le_of_ble_eq_true rfl) (gh_C.pw (s_Model_countOf d v13 v9 v9 v2 v3 v4 hF h) (fun r4343 h => ?_))
    refine gh_aload_n gd_Model_openParts_58 2 rfl (by decide) ?_
    refine gf_63_67 gd_Model_openParts_59 gh_k1434 hF ?_
    refine gh_bipush gd_Model_openParts_62 (by decide) (gh_r0 rfl) ?_
    refine gh_iload gd_Model_openParts_64 11 rfl ?_
    obtain ⟨q4345, h⟩ := h
    refine gh_imul gd_Model_openParts_66 q4345 ?_
    refine gh_bipush gd_Model_openParts_67 (by decide) (gh_r0 rfl) ?_
    obtain ⟨q4346, h⟩ := h
    refine gh_iadd gd_Model_openParts_69 q4346 ?_
    refine gh_iload gd_Model_openParts_70 0 rfl ?_
    obtain ⟨q4347, h⟩ := h
    refine gh_iadd gd_Model_openParts_72 q4347 ?_
    obtain ⟨q4348, h⟩ := h
    obtain ⟨q4349, h⟩ := h
    refine la_108 gd_Model_openParts_73 hF q4348 q4349 rfl ?_
    obtain ⟨q4350, h⟩ := h
    refine cv_Model_times (d := d + 2) gd_Model_openParts_74 gh_k1997 (Nat.le_of_ble_eq_true rfl) (gh_C.pe (e_Model_times (d + 2) r4343 (m 108 (((9 * v12) + 9) + v9)) q4350) ?_)
    refine gh_name (fun v15 hn => ?_)
    have h := h v15 hn
    refine gh_lstore (L2 := [(15, 1, v15), (14, 0, v9), (13, 0, v13), (0, 2, 63), (1, 0, v1), (2, 0, v2), (3, 0, v3), (4, 0, v4), (5, 0, v5), (8, 0, v8), (9, 0, v9), (10, 1, v10), (12, 0, v12)]) gd_Model_openParts_77 (by decide) rfl ?_
    refine gh_pick (L2 := [(0, 2, 63), (1, 0, v1), (2, 0, v2), (3, 0, v3), (4, 0, v4), (5, 0, v5), (8, 0, v8), (9, 0, v9), (10, 1, v10), (12, 0, v12), (13, 0, v13), (14, 0, v9), (15, 1, v15)]) [3, 4, 5, 6, 7, 8, 9, 10, 11, 12, 2, 1, 0] rfl ?_
    exact gh_L3_sound (T := fun v10 v14 v15 => gh_T E (gh_yModel_openParts.cls, prog_14_method_99_code, 20, false, 9) (d + 3) 79 [(0, 2, 63), (1, 0, v1), (2, 0, v2), (3, 0, v3), (4, 0, v4), (5, 0, v5), (8, 0, v8), (9, 0, v9), (10, 1, v10), (12, 0, v12), (13, 0, v13), (14, 0, v14), (15, 1, v15)] [] m (fun r m1 => gh_F m1 ∧ Q r m1)) (fun _ _ _ => gh_F m) (fun K79 v10 v14 v15 hK hF h => b_Model_openParts_79 d hK16 hK v10 v14 v15 hF h) v10 v9 v15 hF h
  · have h := hB c4338
    refine gh_iconst gd_Model_openParts_248 (gh_r0 rfl) ?_
    refine gh_istore (L2 := [(12, 0, 0), (0, 2, 63), (1, 0, v1), (2, 0, v2), (3, 0, v3), (4, 0, v4), (5, 0, v5), (8, 0, v8), (9, 0, v9), (10, 1, v10)]) gd_Model_openParts_249 (by decide) rfl ?_
    refine gh_pick (L2 := [(0, 2, 63), (8, 0, v8), (12, 0, 0)]) [1, 7, 0] rfl ?_
    exact gh_M1_sound (T := fun v12 m => gh_T E (gh_yModel_openParts.cls, prog_14_method_99_code, 20, false, 9) (d + 3) 251 [(0, 2, 63), (8, 0, v8), (12, 0, v12)] [] m (fun r m1 => gh_F m1 ∧ Q r m1)) (fun _ m => gh_F m) (fun K251 v12 m hK hF h => b_Model_openParts_251 d hK v12 m hF h) 0 m hF h
theorem s_Model_openParts {E : gh_E} {m : gh_M} {Q : Int → gh_M → Prop} (d : Nat) (v1 : Int) (v2 : Int) (v3 : Int) (v4 : Int) (v5 : Int) (v6 : Int) (hF : gh_F m) (h : w_Model_openParts v1 v2 v3 v4 v5 v6 m Q) : gh_C E gh_yModel_openParts prog_14_method_99_code 20 none 9 (d + 3) [(2, 63), (0, v1), (0, v2), (0, v3), (0, v4), (0, v5), (1, v6)] m (fun r m1 => gh_F m1 ∧ Q r m1) := by
  refine gh_enter2 (L := [(0, 2, 63), (1, 0, v1), (2, 0, v2), (3, 0, v3), (4, 0, v4), (5, 0, v5), (6, 1, v6)]) (by decide +kernel) gh_rt9 (Nat.le_of_ble_eq_true rfl) rfl rfl ?_
  unfold w_Model_openParts at h
  refine gh_aload_n gd_Model_openParts_0 0 rfl (by decide) ?_
  refine gf_63_80 gd_Model_openParts_1 gh_k1447 hF rfl ?_
  refine gh_name (fun v8 hn => ?_)
  have h := h v8 hn
  refine gh_istore (L2 := [(8, 0, v8), (0, 2, 63), (1, 0, v1), (2, 0, v2), (3, 0, v3), (4, 0, v4), (5, 0, v5), (6, 1, v6)]) gd_Model_openParts_4 (by decide) rfl ?_
  refine gh_iload_n gd_Model_openParts_6 3 rfl ?_
  refine gh_istore (L2 := [(9, 0, v2), (8, 0, v8), (0, 2, 63), (1, 0, v1), (2, 0, v2), (3, 0, v3), (4, 0, v4), (5, 0, v5), (6, 1, v6)]) gd_Model_openParts_7 (by decide) rfl ?_
  refine gh_lload gd_Model_openParts_9 8 rfl ?_
  refine gh_lstore (L2 := [(10, 1, v6), (9, 0, v2), (8, 0, v8), (0, 2, 63), (1, 0, v1), (2, 0, v2), (3, 0, v3), (4, 0, v4), (5, 0, v5), (6, 1, v6)]) gd_Model_openParts_11 (by decide) rfl ?_
  refine gh_iconst gd_Model_openParts_13 (gh_r0 rfl) ?_
  refine gh_istore (L2 := [(12, 0, 0), (10, 1, v6), (9, 0, v2), (8, 0, v8), (0, 2, 63), (1, 0, v1), (2, 0, v2), (3, 0, v3), (4, 0, v4), (5, 0, v5), (6, 1, v6)]) gd_Model_openParts_14 (by decide) rfl ?_
  refine gh_pick (L2 := [(0, 2, 63), (1, 0, v1), (2, 0, v2), (3, 0, v3), (4, 0, v4), (5, 0, v5), (8, 0, v8), (9, 0, v2), (10, 1, v6), (12, 0, 0)]) [4, 5, 6, 7, 8, 9, 3, 2, 1, 0] rfl ?_
  exact gh_M3_sound (T := fun v9 v10 v12 m => gh_T E (gh_yModel_openParts.cls, prog_14_method_99_code, 20, false, 9) (d + 3) 16 [(0, 2, 63), (1, 0, v1), (2, 0, v2), (3, 0, v3), (4, 0, v4), (5, 0, v5), (8, 0, v8), (9, 0, v9), (10, 1, v10), (12, 0, v12)] [] m (fun r m1 => gh_F m1 ∧ Q r m1)) (fun _ _ _ m => gh_F m) (fun K16 v9 v10 v12 m hK hF h => b_Model_openParts_16 d hK v9 v10 v12 m hF h) v2 v6 0 m hF h
def f_Model_takeStep_144 (v2 : Int) (v3 : Int) (v4 : Int) (v5 : Int) (Q : Int → gh_M → Prop) (K144 : Int → Int → gh_M → Prop) (v6 : Int) (v8 : Int) (m : gh_M) : Prop := 0 ≤ v2 ∧ v2 < 45 ∧ ((v6 < (m 108 v2) → 0 ≤ m 63 71 ∧ (m 63 71) < 300 ∧ gh_i ((m 63 71) + 1) ∧ w_Model_openParts v8 v2 v3 v4 v5 v6 (gh_u (gh_u m 110 (m 63 71) v8) 63 71 ((m 63 71) + 1)) (fun _ m4428 => Q 0 m4428)) ∧ (¬ (v6 < (m 108 v2)) → 0 ≤ v2 ∧ v2 < 45 ∧ gh_j (v6 - (m 108 v2)) ∧ ∀ v6' : Int, v6' = v6 - (m 108 v2) → gh_i (v8 + 1) ∧ w_Model_layWays (v8 + 1) v2 v3 v4 m (fun _ m4434 => K144 v6' (v8 + 1) m4434)))
def w_Model_takeStep (m : gh_M) (Q : Int → gh_M → Prop) : Prop := gh_i ((m 63 80) - 1) ∧ 0 ≤ ((m 63 80) - 1) ∧ (((m 63 80) - 1)) < 1300 ∧ ∀ v1 : Int, v1 = m 111 (((m 63 80) - 1)) → ((v1 < 0 → 0 ≤ m 63 71 ∧ (m 63 71) < 300 ∧ gh_i ((m 63 71) + 1) ∧ Q 0 (gh_u (gh_u (gh_u m 63 80 ((m 63 80) - 1)) 110 (m 63 71) v1) 63 71 ((m 63 71) + 1))) ∧ (¬ (v1 < 0) → 0 ≤ ((m 63 80) - 1) ∧ (((m 63 80) - 1)) < 1300 ∧ ∀ v2 : Int, v2 = m 112 (((m 63 80) - 1)) → 0 ≤ ((m 63 80) - 1) ∧ (((m 63 80) - 1)) < 1300 ∧ ∀ v3 : Int, v3 = m 113 (((m 63 80) - 1)) → 0 ≤ ((m 63 80) - 1) ∧ (((m 63 80) - 1)) < 1300 ∧ ∀ v4 : Int, v4 = gh_ior_f (m 114 (((m 63 80) - 1))) (gh_ishl_f 1 v1) → 0 ≤ ((m 63 80) - 1) ∧ (((m 63 80) - 1)) < 1300 ∧ gh_i ((m 115 (((m 63 80) - 1))) + 1) ∧ ∀ v5 : Int, v5 = (m 115 (((m 63 80) - 1))) + 1 → 0 ≤ ((m 63 80) - 1) ∧ (((m 63 80) - 1)) < 1300 ∧ ∀ v6 : Int, v6 = m 116 (((m 63 80) - 1)) → 0 ≤ v1 ∧ v1 < 8 ∧ ∀ v8 : Int, v8 = m 77 v1 → w_Model_layWays v8 v2 v3 v4 (gh_u (gh_u m 63 80 ((m 63 80) - 1)) 63 73 (if v5 ≤ (m 63 73) then (m 63 73) else v5)) (fun _ m4420 => gh_M2 (fun K144 v6 v8 m => f_Model_takeStep_144 v2 v3 v4 v5 Q K144 v6 v8 m) v6 v8 m4420)))
theorem b_Model_takeStep_144 {E : gh_E} {v2 : Int} {v3 : Int} {v4 : Int} {v5 : Int} {Q : Int → gh_M → Prop} {K144 : Int → Int → gh_M → Prop} (d : Nat) (hK : ∀ (v6 : Int) (v8 : Int) (m : gh_M), gh_F m → K144 v6 v8 m → gh_T E (gh_yModel_takeStep.cls, prog_14_method_101_code, 9, false, 9) (d + 4) 144 [(0, 2, 63), (2, 0, v2), (3, 0, v3), (4, 0, v4), (5, 0, v5), (6, 1, v6), (8, 0, v8)] [] m (fun r m1 => gh_F m1 ∧ Q r m1)) (v6 : Int) (v8 : Int) (m : gh_M) (hF : gh_F m) (h : f_Model_takeStep_144 v2 v3 v4 v5 Q K144 v6 v8 m) : gh_T E (gh_yModel_takeStep.cls, prog_14_method_101_code, 9, false, 9) (d + 4) 144 [(0, 2, 63), (2, 0, v2), (3, 0, v3), (4, 0, v4), (5, 0, v5), (6, 1, v6), (8, 0, v8)] [] m (fun r m1 => gh_F m1 ∧ Q r m1) := by
  have hK144 := hK
  unfold f_Model_takeStep_144 at h
  refine gh_lload gd_Model_takeStep_144 5 rfl ?_
  refine gh_aload_n gd_Model_takeStep_146 0 rfl (by decide) ?_
  refine gf_63_67 gd_Model_takeStep_147 gh_k1434 hF ?_
  refine gh_iload_n gd_Model_takeStep_150 1 rfl ?_
  obtain ⟨q4421, h⟩ := h
  obtain ⟨q4422, h⟩ := h
  refine la_108 gd_Model_takeStep_151 hF q4421 q4422 rfl ?_
  refine gh_lcmp gd_Model_takeStep_152 ?_
  obtain ⟨hA, hB⟩ := h
  refine gh_clt (tgt := 183) gd_Model_takeStep_153 (by decide) (fun c4423 => ?_) (fun c4423 => ?_)
  · have h := hA c4423
    refine gh_aload_n gd_Model_takeStep_183 0 rfl (by decide) ?_
    refine gf_63_72 gd_Model_takeStep_184 gh_k1439 hF ?_
    refine gh_aload_n gd_Model_takeStep_187 0 rfl (by decide) ?_
    refine gf_63_71 gd_Model_takeStep_188 gh_k1438 hF rfl ?_
    refine gh_iload gd_Model_takeStep_191 6 rfl ?_
    obtain ⟨q4424, h⟩ := h
    obtain ⟨q4425, h⟩ := h
    refine sa_110 gd_Model_takeStep_193 hF q4424 q4425 (fun hF => ?_)
    refine gh_aload_n gd_Model_takeStep_194 0 rfl (by decide) ?_
    refine gh_dup gd_Model_takeStep_195 (by decide) ?_
    refine gf_63_71 gd_Model_takeStep_196 gh_k1438 hF (gh_u_a (by decide)) ?_
    refine gh_iconst gd_Model_takeStep_199 (gh_r0 rfl) ?_
    obtain ⟨q4426, h⟩ := h
    refine gh_iadd gd_Model_takeStep_200 q4426 ?_
    refine pf_63_71 gd_Model_takeStep_201 gh_k1438 hF (fun hF => ?_)
    refine gh_aload_n gd_Model_takeStep_204 0 rfl (by decide) ?_
    refine gh_iload gd_Model_takeStep_205 6 rfl ?_
    refine gh_iload_n gd_Model_takeStep_207 1 rfl ?_
    refine gh_iload_n gd_Model_takeStep_208 2 rfl ?_
    refine gh_iload gd_Model_takeStep_209 3 rfl ?_
    refine gh_iload gd_Model_takeStep_211 4 rfl ?_
    refine gh_lload gd_Model_takeStep_213 5 rfl ?_
    refine cv_Model_openParts (d := d + 3) gd_Model_takeStep_215 gh_k2018 hF (Nat.le_of_ble_eq_true rfl) (gh_C.mono (s_Model_openParts d v8 v2 v3 v4 v5 v6 hF h) (fun r4427 m4428 hq => ?_))
    obtain ⟨hF, h⟩ := hq
    exact gh_ret9 rfl gd_Model_takeStep_218 ⟨hF, h⟩
  · have h := hB c4423
    refine gh_lload gd_Model_takeStep_156 5 rfl ?_
    refine gh_aload_n gd_Model_takeStep_158 0 rfl (by decide) ?_
    refine gf_63_67 gd_Model_takeStep_159 gh_k1434 hF ?_
    refine gh_iload_n gd_Model_takeStep_162 1 rfl ?_
    obtain ⟨q4429, h⟩ := h
    obtain ⟨q4430, h⟩ := h
    refine la_108 gd_Model_takeStep_163 hF q4429 q4430 rfl ?_
    obtain ⟨q4431, h⟩ := h
    refine gh_lsub gd_Model_takeStep_164 q4431 ?_
    refine gh_name (fun v6' hn => ?_)
    have h := h v6' hn
    refine gh_lstore (L2 := [(6, 1, v6'), (0, 2, 63), (2, 0, v2), (3, 0, v3), (4, 0, v4), (5, 0, v5), (8, 0, v8)]) gd_Model_takeStep_165 (by decide) rfl ?_
    obtain ⟨q4432, h⟩ := h
    refine gh_iinc (L2 := [(8, 0, v8 + 1), (6, 1, v6'), (0, 2, 63), (2, 0, v2), (3, 0, v3), (4, 0, v4), (5, 0, v5)]) gd_Model_takeStep_167 6 rfl q4432 (by decide) rfl ?_
    refine gh_aload_n gd_Model_takeStep_170 2 rfl (by decide) ?_
    refine gh_iload gd_Model_takeStep_171 0 rfl ?_
    refine gh_iload_n gd_Model_takeStep_173 3 rfl ?_
    refine gh_iload_n gd_Model_takeStep_174 4 rfl ?_
    refine gh_iload gd_Model_takeStep_175 5 rfl ?_
    refine cv_Model_layWays (d := d + 3) gd_Model_takeStep_177 gh_k1989 hF (Nat.le_of_ble_eq_true rfl) (gh_C.mono (s_Model_layWays d (v8 + 1) v2 v3 v4 hF h) (fun r4433 m4434 hq => ?_))
    obtain ⟨hF, h⟩ := hq
    refine gh_goto (tgt := 144) gd_Model_takeStep_180 (by decide) ?_
    refine gh_pick (L2 := [(0, 2, 63), (2, 0, v2), (3, 0, v3), (4, 0, v4), (5, 0, v5), (6, 1, v6'), (8, 0, v8 + 1)]) [2, 3, 4, 5, 6, 1, 0] rfl ?_
    exact hK144 v6' (v8 + 1) m4434 hF h
theorem s_Model_takeStep {E : gh_E} {m : gh_M} {Q : Int → gh_M → Prop} (d : Nat) (hF : gh_F m) (h : w_Model_takeStep m Q) : gh_C E gh_yModel_takeStep prog_14_method_101_code 9 none 9 (d + 4) [(2, 63)] m (fun r m1 => gh_F m1 ∧ Q r m1) := by
  refine gh_enter2 (L := [(0, 2, 63)]) (by decide +kernel) gh_rt9 (Nat.le_of_ble_eq_true rfl) rfl rfl ?_
  unfold w_Model_takeStep at h
  refine gh_aload_n gd_Model_takeStep_0 0 rfl (by decide) ?_
  refine gh_dup gd_Model_takeStep_1 (by decide) ?_
  refine gf_63_80 gd_Model_takeStep_2 gh_k1447 hF rfl ?_
  refine gh_iconst gd_Model_takeStep_5 (gh_r0 rfl) ?_
  obtain ⟨q4397, h⟩ := h
  refine gh_isub gd_Model_takeStep_6 q4397 ?_
  refine pf_63_80 gd_Model_takeStep_7 gh_k1447 hF (fun hF => ?_)
  refine gh_aload_n gd_Model_takeStep_10 0 rfl (by decide) ?_
  refine gf_63_74 gd_Model_takeStep_11 gh_k1441 hF ?_
  refine gh_aload_n gd_Model_takeStep_14 0 rfl (by decide) ?_
  refine gf_63_80 gd_Model_takeStep_15 gh_k1447 hF (gh_u_s _ _ _ _) ?_
  obtain ⟨q4398, h⟩ := h
  obtain ⟨q4399, h⟩ := h
  refine la_111 gd_Model_takeStep_18 hF q4398 q4399 (gh_u_a (by decide)) ?_
  refine gh_name (fun v1 hn => ?_)
  have h := h v1 hn
  refine gh_istore_n (L2 := [(1, 0, v1), (0, 2, 63)]) gd_Model_takeStep_19 (by decide) rfl ?_
  refine gh_iload_n gd_Model_takeStep_20 0 rfl ?_
  obtain ⟨hA, hB⟩ := h
  refine gh_zge (tgt := 45) gd_Model_takeStep_21 (by decide) (fun c4400 => ?_) (fun c4400 => ?_)
  · have h := hA c4400
    refine gh_aload_n gd_Model_takeStep_24 1 rfl (by decide) ?_
    refine gf_63_72 gd_Model_takeStep_25 gh_k1439 hF ?_
    refine gh_aload_n gd_Model_takeStep_28 1 rfl (by decide) ?_
    refine gf_63_71 gd_Model_takeStep_29 gh_k1438 hF (gh_u_i (by decide)) ?_
    refine gh_iload_n gd_Model_takeStep_32 0 rfl ?_
    obtain ⟨q4401, h⟩ := h
    obtain ⟨q4402, h⟩ := h
    refine sa_110 gd_Model_takeStep_33 hF q4401 q4402 (fun hF => ?_)
    refine gh_aload_n gd_Model_takeStep_34 1 rfl (by decide) ?_
    refine gh_dup gd_Model_takeStep_35 (by decide) ?_
    refine gf_63_71 gd_Model_takeStep_36 gh_k1438 hF ((gh_u_a (by decide)).trans (gh_u_i (by decide))) ?_
    refine gh_iconst gd_Model_takeStep_39 (gh_r0 rfl) ?_
    obtain ⟨q4403, h⟩ := h
    refine gh_iadd gd_Model_takeStep_40 q4403 ?_
    refine pf_63_71 gd_Model_takeStep_41 gh_k1438 hF (fun hF => ?_)
    exact gh_ret9 rfl gd_Model_takeStep_44 ⟨hF, h⟩
  · have h := hB c4400
    refine gh_aload_n gd_Model_takeStep_45 1 rfl (by decide) ?_
    refine gf_63_75 gd_Model_takeStep_46 gh_k1442 hF ?_
    refine gh_aload_n gd_Model_takeStep_49 1 rfl (by decide) ?_
    refine gf_63_80 gd_Model_takeStep_50 gh_k1447 hF (gh_u_s _ _ _ _) ?_
    obtain ⟨q4404, h⟩ := h
    obtain ⟨q4405, h⟩ := h
    refine la_112 gd_Model_takeStep_53 hF q4404 q4405 (gh_u_a (by decide)) ?_
    refine gh_name (fun v2 hn => ?_)
    have h := h v2 hn
    refine gh_istore_n (L2 := [(2, 0, v2), (1, 0, v1), (0, 2, 63)]) gd_Model_takeStep_54 (by decide) rfl ?_
    refine gh_aload_n gd_Model_takeStep_55 2 rfl (by decide) ?_
    refine gf_63_76 gd_Model_takeStep_56 gh_k1443 hF ?_
    refine gh_aload_n gd_Model_takeStep_59 2 rfl (by decide) ?_
    refine gf_63_80 gd_Model_takeStep_60 gh_k1447 hF (gh_u_s _ _ _ _) ?_
    obtain ⟨q4406, h⟩ := h
    obtain ⟨q4407, h⟩ := h
    refine la_113 gd_Model_takeStep_63 hF q4406 q4407 (gh_u_a (by decide)) ?_
    refine gh_name (fun v3 hn => ?_)
    have h := h v3 hn
    refine gh_istore_n (L2 := [(3, 0, v3), (2, 0, v2), (1, 0, v1), (0, 2, 63)]) gd_Model_takeStep_64 (by decide) rfl ?_
    refine gh_aload_n gd_Model_takeStep_65 3 rfl (by decide) ?_
    refine gf_63_77 gd_Model_takeStep_66 gh_k1444 hF ?_
    refine gh_aload_n gd_Model_takeStep_69 3 rfl (by decide) ?_
    refine gf_63_80 gd_Model_takeStep_70 gh_k1447 hF (gh_u_s _ _ _ _) ?_
    obtain ⟨q4408, h⟩ := h
    obtain ⟨q4409, h⟩ := h
    refine la_114 gd_Model_takeStep_73 hF q4408 q4409 (gh_u_a (by decide)) ?_
    refine gh_iconst gd_Model_takeStep_74 (gh_r0 rfl) ?_
    refine gh_iload_n gd_Model_takeStep_75 2 rfl ?_
    refine gh_ishl gd_Model_takeStep_76 ?_
    refine gh_ior gd_Model_takeStep_77 ?_
    refine gh_name (fun v4 hn => ?_)
    have h := h v4 hn
    refine gh_istore (L2 := [(4, 0, v4), (3, 0, v3), (2, 0, v2), (1, 0, v1), (0, 2, 63)]) gd_Model_takeStep_78 (by decide) rfl ?_
    refine gh_aload_n gd_Model_takeStep_80 4 rfl (by decide) ?_
    refine gf_63_78 gd_Model_takeStep_81 gh_k1445 hF ?_
    refine gh_aload_n gd_Model_takeStep_84 4 rfl (by decide) ?_
    refine gf_63_80 gd_Model_takeStep_85 gh_k1447 hF (gh_u_s _ _ _ _) ?_
    obtain ⟨q4410, h⟩ := h
    obtain ⟨q4411, h⟩ := h
    refine la_115 gd_Model_takeStep_88 hF q4410 q4411 (gh_u_a (by decide)) ?_
    refine gh_iconst gd_Model_takeStep_89 (gh_r0 rfl) ?_
    obtain ⟨q4412, h⟩ := h
    refine gh_iadd gd_Model_takeStep_90 q4412 ?_
    refine gh_name (fun v5 hn => ?_)
    have h := h v5 hn
    refine gh_istore (L2 := [(5, 0, v5), (4, 0, v4), (3, 0, v3), (2, 0, v2), (1, 0, v1), (0, 2, 63)]) gd_Model_takeStep_91 (by decide) rfl ?_
    refine gh_aload_n gd_Model_takeStep_93 5 rfl (by decide) ?_
    refine gf_63_79 gd_Model_takeStep_94 gh_k1446 hF ?_
    refine gh_aload_n gd_Model_takeStep_97 5 rfl (by decide) ?_
    refine gf_63_80 gd_Model_takeStep_98 gh_k1447 hF (gh_u_s _ _ _ _) ?_
    obtain ⟨q4413, h⟩ := h
    obtain ⟨q4414, h⟩ := h
    refine la_116 gd_Model_takeStep_101 hF q4413 q4414 (gh_u_a (by decide)) ?_
    refine gh_name (fun v6 hn => ?_)
    have h := h v6 hn
    refine gh_lstore (L2 := [(6, 1, v6), (5, 0, v5), (4, 0, v4), (3, 0, v3), (2, 0, v2), (1, 0, v1), (0, 2, 63)]) gd_Model_takeStep_102 (by decide) rfl ?_
    refine gh_aload_n gd_Model_takeStep_104 6 rfl (by decide) ?_
    refine gh_iload gd_Model_takeStep_105 1 rfl ?_
    refine gh_aload_n gd_Model_takeStep_107 6 rfl (by decide) ?_
    refine gf_63_73 gd_Model_takeStep_108 gh_k1440 hF (gh_u_i (by decide)) ?_
    have k4415 : ∀ x4416 : Int, x4416 = (if v5 ≤ (m 63 73) then (m 63 73) else v5) → gh_T E (gh_yModel_takeStep.cls, prog_14_method_101_code, 9, false, 9) (d + 4) 123 [(6, 1, v6), (5, 0, v5), (4, 0, v4), (3, 0, v3), (2, 0, v2), (1, 0, v1), (0, 2, 63)] [(0, x4416), (2, 63)] (gh_u m 63 80 ((m 63 80) - 1)) (fun r m1 => gh_F m1 ∧ Q r m1) := by
      rintro _ rfl
      refine pf_63_73 gd_Model_takeStep_123 gh_k1440 hF (fun hF => ?_)
      refine gh_aload_n gd_Model_takeStep_126 6 rfl (by decide) ?_
      refine gf_63_30 gd_Model_takeStep_127 gh_k1397 hF ?_
      refine gh_iload_n gd_Model_takeStep_130 5 rfl ?_
      obtain ⟨q4417, h⟩ := h
      obtain ⟨q4418, h⟩ := h
      refine la_77 gd_Model_takeStep_131 hF q4417 q4418 ((gh_u_a (by decide)).trans (gh_u_a (by decide))) ?_
      refine gh_name (fun v8 hn => ?_)
      have h := h v8 hn
      refine gh_istore (L2 := [(8, 0, v8), (6, 1, v6), (5, 0, v5), (4, 0, v4), (3, 0, v3), (2, 0, v2), (1, 0, v1), (0, 2, 63)]) gd_Model_takeStep_132 (by decide) rfl ?_
      refine gh_aload_n gd_Model_takeStep_134 7 rfl (by decide) ?_
      refine gh_iload gd_Model_takeStep_135 0 rfl ?_
      refine gh_iload_n gd_Model_takeStep_137 5 rfl ?_
      refine gh_iload_n gd_Model_takeStep_138 4 rfl ?_
      refine gh_iload gd_Model_takeStep_139 3 rfl ?_
      refine cv_Model_layWays (d := d + 3) gd_Model_takeStep_141 gh_k1989 hF (Nat.le_of_ble_eq_true rfl) (gh_C.mono (s_Model_layWays d v8 v2 v3 v4 hF h) (fun r4419 m4420 hq => ?_))
      obtain ⟨hF, h⟩ := hq
      refine gh_pick (L2 := [(0, 2, 63), (2, 0, v2), (3, 0, v3), (4, 0, v4), (5, 0, v5), (6, 1, v6), (8, 0, v8)]) [7, 5, 4, 3, 2, 1, 0] rfl ?_
      exact gh_M2_sound (T := fun v6 v8 m => gh_T E (gh_yModel_takeStep.cls, prog_14_method_101_code, 9, false, 9) (d + 4) 144 [(0, 2, 63), (2, 0, v2), (3, 0, v3), (4, 0, v4), (5, 0, v5), (6, 1, v6), (8, 0, v8)] [] m (fun r m1 => gh_F m1 ∧ Q r m1)) (fun _ _ m => gh_F m) (fun K144 v6 v8 m hK hF h => b_Model_takeStep_144 d hK v6 v8 m hF h) v6 v8 m4420 hF h
    refine gh_jle (tgt := 119) gd_Model_takeStep_111 (by decide) (fun c4435 => ?_) (fun c4435 => ?_)
    · have hz : True := trivial
      refine gh_aload_n gd_Model_takeStep_119 6 rfl (by decide) ?_
      refine gf_63_73 gd_Model_takeStep_120 gh_k1440 hF (gh_u_i (by decide)) ?_
      exact k4415 _ (by rw [if_pos c4435])
    · have hz : True := trivial
      refine gh_iload gd_Model_takeStep_114 1 rfl ?_
      refine gh_goto (tgt := 123) gd_Model_takeStep_116 (by decide) ?_
      exact k4415 _ (by rw [if_neg c4435])
def f_Model_pick_120 (Q : Int → gh_M → Prop) (K120 : Int → gh_M → Prop) (v3 : Int) (m : gh_M) : Prop := ((v3 < (m 63 68) → 0 ≤ v3 ∧ v3 < 300 ∧ 0 ≤ v3 ∧ v3 < 300 ∧ gh_i (v3 + 1) ∧ K120 (v3 + 1) (gh_u m 109 v3 (m 110 v3))) ∧ (¬ (v3 < (m 63 68)) → Q (m 63 68) m))
def f_Model_pick_74 (Q : Int → gh_M → Prop) (K74 : gh_M → Prop) (m : gh_M) : Prop := (((m 63 80) ≤ 0 → gh_M1 (fun K120 v3 m => f_Model_pick_120 Q K120 v3 m) 0 (gh_u (gh_u m 63 68 (m 63 71)) 63 70 (m 63 73))) ∧ (¬ ((m 63 80) ≤ 0) → (((m 63 71) = 300 → Q (-1004) m) ∧ (¬ ((m 63 71) = 300) → w_Model_takeStep m (fun _ m4453 => K74 m4453)))))
def w_Model_pick (v1 : Int) (m : gh_M) (Q : Int → gh_M → Prop) : Prop := (((¬ (v1 < 0) ∧ (v1 ≤ 999999999999999999)) → (((m 63 24) = 0 → Q (-1003) m) ∧ (¬ ((m 63 24) = 0) → w_Model_countTrees 0 0 (m 63 50) m (fun r4439 m4440 => ((v1 < r4439 → w_Model_opn 0 0 (m4440 63 50) 0 0 v1 (gh_u (gh_u (gh_u m4440 63 71 0) 63 73 0) 63 80 0) (fun _ m4443 => gh_M0 (fun K74 m => f_Model_pick_74 Q K74 m) m4443)) ∧ (¬ (v1 < r4439) → Q (-1) m4440)))))) ∧ (¬ (¬ (v1 < 0) ∧ (v1 ≤ 999999999999999999)) → Q (-1002) m))
theorem b_Model_pick_120 {E : gh_E} {Q : Int → gh_M → Prop} {K120 : Int → gh_M → Prop} (d : Nat) (hK : ∀ (v3 : Int) (m : gh_M), gh_F m → K120 v3 m → gh_T E (gh_yModel_pick.cls, prog_14_method_102_code, 4, false, 0) (d + 5) 120 [(0, 2, 63), (3, 0, v3)] [] m (fun r m1 => gh_F m1 ∧ Q r m1)) (v3 : Int) (m : gh_M) (hF : gh_F m) (h : f_Model_pick_120 Q K120 v3 m) : gh_T E (gh_yModel_pick.cls, prog_14_method_102_code, 4, false, 0) (d + 5) 120 [(0, 2, 63), (3, 0, v3)] [] m (fun r m1 => gh_F m1 ∧ Q r m1) := by
  have hK120 := hK
  unfold f_Model_pick_120 at h
  refine gh_iload_n gd_Model_pick_120 1 rfl ?_
  refine gh_aload_n gd_Model_pick_121 0 rfl (by decide) ?_
  refine gf_63_68 gd_Model_pick_122 gh_k1435 hF rfl ?_
  obtain ⟨hA, hB⟩ := h
  refine gh_jge (tgt := 146) gd_Model_pick_125 (by decide) (fun c4445 => ?_) (fun c4445 => ?_)
  · have h := hA c4445
    refine gh_aload_n gd_Model_pick_128 0 rfl (by decide) ?_
    refine gf_63_69 gd_Model_pick_129 gh_k1436 hF ?_
    refine gh_iload_n gd_Model_pick_132 1 rfl ?_
    refine gh_aload_n gd_Model_pick_133 0 rfl (by decide) ?_
    refine gf_63_72 gd_Model_pick_134 gh_k1439 hF ?_
    refine gh_iload_n gd_Model_pick_137 1 rfl ?_
    obtain ⟨q4446, h⟩ := h
    obtain ⟨q4447, h⟩ := h
    refine la_110 gd_Model_pick_138 hF q4446 q4447 rfl ?_
    obtain ⟨q4448, h⟩ := h
    obtain ⟨q4449, h⟩ := h
    refine sa_109 gd_Model_pick_139 hF q4448 q4449 (fun hF => ?_)
    obtain ⟨q4450, h⟩ := h
    refine gh_iinc (L2 := [(3, 0, v3 + 1), (0, 2, 63)]) gd_Model_pick_140 1 rfl q4450 (by decide) rfl ?_
    refine gh_goto (tgt := 120) gd_Model_pick_143 (by decide) ?_
    refine gh_pick (L2 := [(0, 2, 63), (3, 0, v3 + 1)]) [1, 0] rfl ?_
    exact hK120 (v3 + 1) (gh_u m 109 v3 (m 110 v3)) hF h
  · have h := hB c4445
    refine gh_aload_n gd_Model_pick_146 0 rfl (by decide) ?_
    refine gf_63_68 gd_Model_pick_147 gh_k1435 hF rfl ?_
    exact gh_ret0 rfl gd_Model_pick_150 ⟨hF, h⟩
theorem b_Model_pick_74 {E : gh_E} {Q : Int → gh_M → Prop} {K74 : gh_M → Prop} (d : Nat) (hK : ∀ (m : gh_M), gh_F m → K74 m → gh_T E (gh_yModel_pick.cls, prog_14_method_102_code, 4, false, 0) (d + 5) 74 [(0, 2, 63)] [] m (fun r m1 => gh_F m1 ∧ Q r m1)) (m : gh_M) (hF : gh_F m) (h : f_Model_pick_74 Q K74 m) : gh_T E (gh_yModel_pick.cls, prog_14_method_102_code, 4, false, 0) (d + 5) 74 [(0, 2, 63)] [] m (fun r m1 => gh_F m1 ∧ Q r m1) := by
  have hK74 := hK
  unfold f_Model_pick_74 at h
  refine gh_aload_n gd_Model_pick_74 0 rfl (by decide) ?_
  refine gf_63_80 gd_Model_pick_75 gh_k1447 hF rfl ?_
  obtain ⟨hA, hB⟩ := h
  refine gh_zle (tgt := 102) gd_Model_pick_78 (by decide) (fun c4444 => ?_) (fun c4444 => ?_)
  · have h := hA c4444
    refine gh_aload_n gd_Model_pick_102 0 rfl (by decide) ?_
    refine gh_aload_n gd_Model_pick_103 0 rfl (by decide) ?_
    refine gf_63_71 gd_Model_pick_104 gh_k1438 hF rfl ?_
    refine pf_63_68 gd_Model_pick_107 gh_k1435 hF (fun hF => ?_)
    refine gh_aload_n gd_Model_pick_110 0 rfl (by decide) ?_
    refine gh_aload_n gd_Model_pick_111 0 rfl (by decide) ?_
    refine gf_63_73 gd_Model_pick_112 gh_k1440 hF (gh_u_i (by decide)) ?_
    refine pf_63_70 gd_Model_pick_115 gh_k1437 hF (fun hF => ?_)
    refine gh_iconst gd_Model_pick_118 (gh_r0 rfl) ?_
    refine gh_istore_n (L2 := [(3, 0, 0), (0, 2, 63)]) gd_Model_pick_119 (by decide) rfl ?_
    refine gh_pick (L2 := [(0, 2, 63), (3, 0, 0)]) [1, 0] rfl ?_
    exact gh_M1_sound (T := fun v3 m => gh_T E (gh_yModel_pick.cls, prog_14_method_102_code, 4, false, 0) (d + 5) 120 [(0, 2, 63), (3, 0, v3)] [] m (fun r m1 => gh_F m1 ∧ Q r m1)) (fun _ m => gh_F m) (fun K120 v3 m hK hF h => b_Model_pick_120 d hK v3 m hF h) 0 (gh_u (gh_u m 63 68 (m 63 71)) 63 70 (m 63 73)) hF h
  · have h := hB c4444
    refine gh_aload_n gd_Model_pick_81 0 rfl (by decide) ?_
    refine gf_63_71 gd_Model_pick_82 gh_k1438 hF rfl ?_
    refine gh_sipush gd_Model_pick_85 (by decide) (gh_r0 rfl) ?_
    obtain ⟨hA, hB⟩ := h
    refine gh_jne (tgt := 95) gd_Model_pick_88 (by decide) (fun c4451 => ?_) (fun c4451 => ?_)
    · have h := hA c4451
      refine gh_sipush gd_Model_pick_91 (by decide) (gh_r0 rfl) ?_
      exact gh_ret0 rfl gd_Model_pick_94 ⟨hF, h⟩
    · have h := hB c4451
      refine gh_aload_n gd_Model_pick_95 0 rfl (by decide) ?_
      refine cv_Model_takeStep (d := d + 4) gd_Model_pick_96 gh_k2014 hF (Nat.le_of_ble_eq_true rfl) (gh_C.mono (s_Model_takeStep d hF h) (fun r4452 m4453 hq => ?_))
      obtain ⟨hF, h⟩ := hq
      refine gh_goto (tgt := 74) gd_Model_pick_99 (by decide) ?_
      exact hK74 m4453 hF h
theorem s_Model_pick {E : gh_E} {m : gh_M} {Q : Int → gh_M → Prop} (d : Nat) (v1 : Int) (hF : gh_F m) (h : w_Model_pick v1 m Q) : gh_C E gh_yModel_pick prog_14_method_102_code 4 (some .int) 0 (d + 5) [(2, 63), (1, v1)] m (fun r m1 => gh_F m1 ∧ Q r m1) := by
  refine gh_enter2 (L := [(0, 2, 63), (1, 1, v1)]) (by decide +kernel) gh_rt0 (Nat.le_of_ble_eq_true rfl) rfl rfl ?_
  unfold w_Model_pick at h
  refine gh_lload_n gd_Model_pick_0 1 rfl ?_
  refine gh_lconst (n := 0) gd_Model_pick_1 (by decide) (gh_r1 rfl) ?_
  refine gh_lcmp gd_Model_pick_2 ?_
  obtain ⟨hA, hB⟩ := h
  have k4436 : (¬ (v1 < 0) ∧ (v1 ≤ 999999999999999999)) → gh_T E (gh_yModel_pick.cls, prog_14_method_102_code, 4, false, 0) (d + 5) 18 [(0, 2, 63), (1, 1, v1)] [] m (fun r m1 => gh_F m1 ∧ Q r m1) := by
    intro c
    have h := hA c
    refine gh_aload_n gd_Model_pick_18 0 rfl (by decide) ?_
    refine gf_63_24 gd_Model_pick_19 gh_k1391 hF rfl ?_
    obtain ⟨hA, hB⟩ := h
    refine gh_zne (tgt := 29) gd_Model_pick_22 (by decide) (fun c4438 => ?_) (fun c4438 => ?_)
    · have h := hA c4438
      refine gh_sipush gd_Model_pick_25 (by decide) (gh_r0 rfl) ?_
      exact gh_ret0 rfl gd_Model_pick_28 ⟨hF, h⟩
    · have h := hB c4438
      refine gh_lload_n gd_Model_pick_29 1 rfl ?_
      refine gh_aload_n gd_Model_pick_30 0 rfl (by decide) ?_
      refine gh_iconst gd_Model_pick_31 (gh_r0 rfl) ?_
      refine gh_iconst gd_Model_pick_32 (gh_r0 rfl) ?_
      refine gh_aload_n gd_Model_pick_33 0 rfl (by decide) ?_
      refine gf_63_50 gd_Model_pick_34 gh_k1417 hF rfl ?_
      refine cv_Model_countTrees (d := d + 4) gd_Model_pick_37 gh_k1969 hF (Nat.le_of_ble_eq_true rfl) (gh_C.mono (s_Model_countTrees d 0 0 (m 63 50) hF h) (fun r4439 m4440 hq => ?_))
      obtain ⟨hF, h⟩ := hq
      refine gh_lcmp gd_Model_pick_40 ?_
      obtain ⟨hA, hB⟩ := h
      refine gh_clt (tgt := 46) gd_Model_pick_41 (by decide) (fun c4441 => ?_) (fun c4441 => ?_)
      · have h := hA c4441
        refine gh_aload_n gd_Model_pick_46 0 rfl (by decide) ?_
        refine gh_iconst gd_Model_pick_47 (gh_r0 rfl) ?_
        refine pf_63_71 gd_Model_pick_48 gh_k1438 hF (fun hF => ?_)
        refine gh_aload_n gd_Model_pick_51 0 rfl (by decide) ?_
        refine gh_iconst gd_Model_pick_52 (gh_r0 rfl) ?_
        refine pf_63_73 gd_Model_pick_53 gh_k1440 hF (fun hF => ?_)
        refine gh_aload_n gd_Model_pick_56 0 rfl (by decide) ?_
        refine gh_iconst gd_Model_pick_57 (gh_r0 rfl) ?_
        refine pf_63_80 gd_Model_pick_58 gh_k1447 hF (fun hF => ?_)
        refine gh_aload_n gd_Model_pick_61 0 rfl (by decide) ?_
        refine gh_iconst gd_Model_pick_62 (gh_r0 rfl) ?_
        refine gh_iconst gd_Model_pick_63 (gh_r0 rfl) ?_
        refine gh_aload_n gd_Model_pick_64 0 rfl (by decide) ?_
        refine gf_63_50 gd_Model_pick_65 gh_k1417 hF ((gh_u_i (by decide)).trans ((gh_u_i (by decide)).trans (gh_u_i (by decide)))) ?_
        refine gh_iconst gd_Model_pick_68 (gh_r0 rfl) ?_
        refine gh_iconst gd_Model_pick_69 (gh_r0 rfl) ?_
        refine gh_lload_n gd_Model_pick_70 1 rfl ?_
        refine cv_Model_opn (d := d + 4) gd_Model_pick_71 gh_k2010 hF (Nat.le_of_ble_eq_true rfl) (gh_C.mono (s_Model_opn (d + 4) 0 0 (m4440 63 50) 0 0 v1 hF h) (fun r4442 m4443 hq => ?_))
        obtain ⟨hF, h⟩ := hq
        refine gh_pick (L2 := [(0, 2, 63)]) [0] rfl ?_
        exact gh_M0_sound (T := fun m => gh_T E (gh_yModel_pick.cls, prog_14_method_102_code, 4, false, 0) (d + 5) 74 [(0, 2, 63)] [] m (fun r m1 => gh_F m1 ∧ Q r m1)) (fun m => gh_F m) (fun K74 m hK hF h => b_Model_pick_74 d hK m hF h) m4443 hF h
      · have h := hB c4441
        refine gh_iconst gd_Model_pick_44 (gh_r0 rfl) ?_
        exact gh_ret0 rfl gd_Model_pick_45 ⟨hF, h⟩
  have k4437 : ¬ (¬ (v1 < 0) ∧ (v1 ≤ 999999999999999999)) → gh_T E (gh_yModel_pick.cls, prog_14_method_102_code, 4, false, 0) (d + 5) 14 [(0, 2, 63), (1, 1, v1)] [] m (fun r m1 => gh_F m1 ∧ Q r m1) := by
    intro c
    have h := hB c
    refine gh_sipush gd_Model_pick_14 (by decide) (gh_r0 rfl) ?_
    exact gh_ret0 rfl gd_Model_pick_17 ⟨hF, h⟩
  refine gh_clt (tgt := 14) gd_Model_pick_3 (by decide) (fun c4454 => ?_) (fun c4454 => ?_)
  · have hz : True := trivial
    exact k4437 (fun z => z.1 c4454)
  · have hz : True := trivial
    refine gh_lload_n gd_Model_pick_6 1 rfl ?_
    refine gh_ldc2 (n := 999999999999999999) gd_Model_pick_7 gh_k2000 (by decide) (gh_r1 rfl) ?_
    refine gh_lcmp gd_Model_pick_10 ?_
    refine gh_cle (tgt := 18) gd_Model_pick_11 (by decide) (fun c4455 => ?_) (fun c4455 => ?_)
    · have hz : True := trivial
      exact k4436 ⟨c4454, c4455⟩
    · have hz : True := trivial
      exact k4437 (fun z => c4455 z.2)
def f_Model_usefulRulesOf_9 (v1 : Int) (Q : Int → Prop) (m : gh_M) (K9 : Int → Int → Prop) (v2 : Int) (v3 : Int) : Prop := 0 ≤ v1 ∧ v1 < 8 ∧ 0 ≤ v1 ∧ v1 < 8 ∧ gh_i ((m 77 v1) + (m 78 v1)) ∧ ((v3 < ((m 77 v1) + (m 78 v1)) → 0 ≤ v3 ∧ v3 < 20 ∧ gh_i (v2 + (if (¬ ((m 83 v3) = 0)) then (1:Int) else 0)) ∧ ∀ v2' : Int, v2' = v2 + (if (¬ ((m 83 v3) = 0)) then (1:Int) else 0) → gh_i (v3 + 1) ∧ K9 v2' (v3 + 1)) ∧ (¬ (v3 < ((m 77 v1) + (m 78 v1))) → Q v2))
def w_Model_usefulRulesOf (v1 : Int) (m : gh_M) (Q : Int → Prop) : Prop := 0 ≤ v1 ∧ v1 < 8 ∧ ∀ v3 : Int, v3 = m 77 v1 → gh_L2 (fun K9 v2 v3 => f_Model_usefulRulesOf_9 v1 Q m K9 v2 v3) 0 v3
theorem b_Model_usefulRulesOf_9 {E : gh_E} {v1 : Int} {Q : Int → Prop} {K9 : Int → Int → Prop} (d : Nat) {m : gh_M} (hK : ∀ (v2 : Int) (v3 : Int), gh_F m → K9 v2 v3 → gh_T E (gh_yModel_usefulRulesOf.cls, prog_14_method_107_code, 4, false, 0) (d + 0) 9 [(0, 2, 63), (1, 0, v1), (2, 0, v2), (3, 0, v3)] [] m (fun r m1 => m1 = m ∧ Q r)) (v2 : Int) (v3 : Int) (hF : gh_F m) (h : f_Model_usefulRulesOf_9 v1 Q m K9 v2 v3) : gh_T E (gh_yModel_usefulRulesOf.cls, prog_14_method_107_code, 4, false, 0) (d + 0) 9 [(0, 2, 63), (1, 0, v1), (2, 0, v2), (3, 0, v3)] [] m (fun r m1 => m1 = m ∧ Q r) := by
  have hK9 := hK
  unfold f_Model_usefulRulesOf_9 at h
  refine gh_iload_n gd_Model_usefulRulesOf_9 3 rfl ?_
  refine gh_aload_n gd_Model_usefulRulesOf_10 0 rfl (by decide) ?_
  refine gf_63_30 gd_Model_usefulRulesOf_11 gh_k1397 hF ?_
  refine gh_iload_n gd_Model_usefulRulesOf_14 1 rfl ?_
  obtain ⟨q4458, h⟩ := h
  obtain ⟨q4459, h⟩ := h
  refine la_77 gd_Model_usefulRulesOf_15 hF q4458 q4459 rfl ?_
  refine gh_aload_n gd_Model_usefulRulesOf_16 0 rfl (by decide) ?_
  refine gf_63_31 gd_Model_usefulRulesOf_17 gh_k1398 hF ?_
  refine gh_iload_n gd_Model_usefulRulesOf_20 1 rfl ?_
  obtain ⟨q4460, h⟩ := h
  obtain ⟨q4461, h⟩ := h
  refine la_78 gd_Model_usefulRulesOf_21 hF q4460 q4461 rfl ?_
  obtain ⟨q4462, h⟩ := h
  refine gh_iadd gd_Model_usefulRulesOf_22 q4462 ?_
  obtain ⟨hA, hB⟩ := h
  refine gh_jge (tgt := 49) gd_Model_usefulRulesOf_23 (by decide) (fun c4463 => ?_) (fun c4463 => ?_)
  · have h := hA c4463
    refine gh_iload_n gd_Model_usefulRulesOf_26 2 rfl ?_
    refine gh_aload_n gd_Model_usefulRulesOf_27 0 rfl (by decide) ?_
    refine gf_63_36 gd_Model_usefulRulesOf_28 gh_k1403 hF ?_
    refine gh_iload_n gd_Model_usefulRulesOf_31 3 rfl ?_
    obtain ⟨q4464, h⟩ := h
    obtain ⟨q4465, h⟩ := h
    refine la_83 gd_Model_usefulRulesOf_32 hF q4464 q4465 rfl ?_
    have k4466 : ∀ x4467 : Int, x4467 = (if (¬ ((m 83 v3) = 0)) then (1:Int) else 0) → gh_T E (gh_yModel_usefulRulesOf.cls, prog_14_method_107_code, 4, false, 0) (d + 0) 41 [(0, 2, 63), (1, 0, v1), (2, 0, v2), (3, 0, v3)] [(0, x4467), (0, v2)] m (fun r m1 => m1 = m ∧ Q r) := by
      rintro _ rfl
      obtain ⟨q4468, h⟩ := h
      refine gh_iadd gd_Model_usefulRulesOf_41 q4468 ?_
      refine gh_name (fun v2' hn => ?_)
      have h := h v2' hn
      refine gh_istore_n (L2 := [(2, 0, v2'), (0, 2, 63), (1, 0, v1), (3, 0, v3)]) gd_Model_usefulRulesOf_42 (by decide) rfl ?_
      obtain ⟨q4469, h⟩ := h
      refine gh_iinc (L2 := [(3, 0, v3 + 1), (2, 0, v2'), (0, 2, 63), (1, 0, v1)]) gd_Model_usefulRulesOf_43 3 rfl q4469 (by decide) rfl ?_
      refine gh_goto (tgt := 9) gd_Model_usefulRulesOf_46 (by decide) ?_
      refine gh_pick (L2 := [(0, 2, 63), (1, 0, v1), (2, 0, v2'), (3, 0, v3 + 1)]) [2, 3, 1, 0] rfl ?_
      exact hK9 v2' (v3 + 1) hF h
    refine gh_zeq (tgt := 40) gd_Model_usefulRulesOf_33 (by decide) (fun c4470 => ?_) (fun c4470 => ?_)
    · have hz : True := trivial
      refine gh_iconst gd_Model_usefulRulesOf_40 (gh_r0 rfl) ?_
      exact k4466 _ (if_neg (c := (¬ ((m 83 v3) = 0))) (not_not_intro c4470)).symm
    · have hz : True := trivial
      refine gh_iconst gd_Model_usefulRulesOf_36 (gh_r0 rfl) ?_
      refine gh_goto (tgt := 41) gd_Model_usefulRulesOf_37 (by decide) ?_
      exact k4466 _ (if_pos (c := (¬ ((m 83 v3) = 0))) c4470).symm
  · have h := hB c4463
    refine gh_iload_n gd_Model_usefulRulesOf_49 2 rfl ?_
    exact gh_ret0 rfl gd_Model_usefulRulesOf_50 ⟨rfl, h⟩
theorem s_Model_usefulRulesOf {E : gh_E} {m : gh_M} {Q : Int → Prop} (d : Nat) (v1 : Int) (hF : gh_F m) (h : w_Model_usefulRulesOf v1 m Q) : gh_C E gh_yModel_usefulRulesOf prog_14_method_107_code 4 (some .int) 0 (d + 0) [(2, 63), (0, v1)] m (fun r m1 => m1 = m ∧ Q r) := by
  refine gh_enter2 (L := [(0, 2, 63), (1, 0, v1)]) (by decide +kernel) gh_rt0 (Nat.le_of_ble_eq_true rfl) rfl rfl ?_
  unfold w_Model_usefulRulesOf at h
  refine gh_iconst gd_Model_usefulRulesOf_0 (gh_r0 rfl) ?_
  refine gh_istore_n (L2 := [(2, 0, 0), (0, 2, 63), (1, 0, v1)]) gd_Model_usefulRulesOf_1 (by decide) rfl ?_
  refine gh_aload_n gd_Model_usefulRulesOf_2 1 rfl (by decide) ?_
  refine gf_63_30 gd_Model_usefulRulesOf_3 gh_k1397 hF ?_
  refine gh_iload_n gd_Model_usefulRulesOf_6 2 rfl ?_
  obtain ⟨q4456, h⟩ := h
  obtain ⟨q4457, h⟩ := h
  refine la_77 gd_Model_usefulRulesOf_7 hF q4456 q4457 rfl ?_
  refine gh_name (fun v3 hn => ?_)
  have h := h v3 hn
  refine gh_istore_n (L2 := [(3, 0, v3), (2, 0, 0), (0, 2, 63), (1, 0, v1)]) gd_Model_usefulRulesOf_8 (by decide) rfl ?_
  refine gh_pick (L2 := [(0, 2, 63), (1, 0, v1), (2, 0, 0), (3, 0, v3)]) [2, 3, 1, 0] rfl ?_
  exact gh_L2_sound (T := fun v2 v3 => gh_T E (gh_yModel_usefulRulesOf.cls, prog_14_method_107_code, 4, false, 0) (d + 0) 9 [(0, 2, 63), (1, 0, v1), (2, 0, v2), (3, 0, v3)] [] m (fun r m1 => m1 = m ∧ Q r)) (fun _ _ => gh_F m) (fun K9 v2 v3 hK hF h => b_Model_usefulRulesOf_9 d hK v2 v3 hF h) 0 v3 hF h
def w_Model_draw (v1 : Int) (m : gh_M) (Q : Int → gh_M → Prop) : Prop := gh_i (25173 * (m 63 83)) ∧ gh_i ((25173 * (m 63 83)) + 13849) ∧ 0 ≤ (25173 * (m 63 83)) + 13849 ∧ 0 ≤ (((25173 * (m 63 83)) + 13849) % 65536) ∧ 0 ≤ ((((25173 * (m 63 83)) + 13849) % 65536)) / 16 ∧ 0 < v1 ∧ Q ((((((25173 * (m 63 83)) + 13849) % 65536)) / 16) % v1) (gh_u m 63 83 (((25173 * (m 63 83)) + 13849) % 65536))
theorem s_Model_draw {E : gh_E} {m : gh_M} {Q : Int → gh_M → Prop} (d : Nat) (v1 : Int) (hF : gh_F m) (h : w_Model_draw v1 m Q) : gh_C E gh_yModel_draw prog_14_method_105_code 2 (some .int) 0 (d + 0) [(2, 63), (0, v1)] m (fun r m1 => gh_F m1 ∧ Q r m1) := by
  refine gh_enter2 (L := [(0, 2, 63), (1, 0, v1)]) (by decide +kernel) gh_rt0 (Nat.le_of_ble_eq_true rfl) rfl rfl ?_
  unfold w_Model_draw at h
  refine gh_aload_n gd_Model_draw_0 0 rfl (by decide) ?_
  refine gh_sipush gd_Model_draw_1 (by decide) (gh_r0 rfl) ?_
  refine gh_aload_n gd_Model_draw_4 0 rfl (by decide) ?_
  refine gf_63_83 gd_Model_draw_5 gh_k1450 hF rfl ?_
  obtain ⟨q4471, h⟩ := h
  refine gh_imul gd_Model_draw_8 q4471 ?_
  refine gh_sipush gd_Model_draw_9 (by decide) (gh_r0 rfl) ?_
  obtain ⟨q4472, h⟩ := h
  refine gh_iadd gd_Model_draw_12 q4472 ?_
  refine gh_ldcw (n := 65536) gd_Model_draw_13 gh_k2051 (by decide) (gh_r0 rfl) ?_
  obtain ⟨q4473, h⟩ := h
  refine gh_irem gd_Model_draw_16 q4473 (by decide) ?_
  refine pf_63_83 gd_Model_draw_17 gh_k1450 hF (fun hF => ?_)
  refine gh_aload_n gd_Model_draw_20 0 rfl (by decide) ?_
  refine gf_63_83 gd_Model_draw_21 gh_k1450 hF (gh_u_s _ _ _ _) ?_
  refine gh_bipush gd_Model_draw_24 (by decide) (gh_r0 rfl) ?_
  obtain ⟨q4474, h⟩ := h
  refine gh_idiv gd_Model_draw_26 q4474 (by decide) ?_
  refine gh_iload_n gd_Model_draw_27 1 rfl ?_
  obtain ⟨q4475, h⟩ := h
  obtain ⟨q4476, h⟩ := h
  refine gh_irem gd_Model_draw_28 q4475 q4476 ?_
  exact gh_ret0 rfl gd_Model_draw_29 ⟨hF, h⟩
def f_Model_usefulRuleOf_10 (Q : Int → Prop) (m : gh_M) (K10 : Int → Int → Prop) (v3 : Int) (v4 : Int) : Prop := 0 ≤ v3 ∧ v3 < 20 ∧ ∃ J24 : Prop, (J24 → 0 ≤ v3 ∧ v3 < 20 ∧ gh_i (v4 - (if (¬ ((m 83 v3) = 0)) then (1:Int) else 0)) ∧ ∀ v4' : Int, v4' = v4 - (if (¬ ((m 83 v3) = 0)) then (1:Int) else 0) → gh_i (v3 + 1) ∧ K10 (v3 + 1) v4') ∧ (((¬ ((m 83 v3) = 0) ∧ (v4 ≤ 0)) → Q v3) ∧ (¬ (¬ ((m 83 v3) = 0) ∧ (v4 ≤ 0)) → J24))
def w_Model_usefulRuleOf (v1 : Int) (v2 : Int) (m : gh_M) (Q : Int → Prop) : Prop := 0 ≤ v1 ∧ v1 < 8 ∧ ∀ v3 : Int, v3 = m 77 v1 → gh_L2 (fun K10 v3 v4 => f_Model_usefulRuleOf_10 Q m K10 v3 v4) v3 v2
theorem b_Model_usefulRuleOf_10 {E : gh_E} {Q : Int → Prop} {K10 : Int → Int → Prop} (d : Nat) {m : gh_M} (hK : ∀ (v3 : Int) (v4 : Int), gh_F m → K10 v3 v4 → gh_T E (gh_yModel_usefulRuleOf.cls, prog_14_method_108_code, 5, false, 0) (d + 0) 10 [(0, 2, 63), (3, 0, v3), (4, 0, v4)] [] m (fun r m1 => m1 = m ∧ Q r)) (v3 : Int) (v4 : Int) (hF : gh_F m) (h : f_Model_usefulRuleOf_10 Q m K10 v3 v4) : gh_T E (gh_yModel_usefulRuleOf.cls, prog_14_method_108_code, 5, false, 0) (d + 0) 10 [(0, 2, 63), (3, 0, v3), (4, 0, v4)] [] m (fun r m1 => m1 = m ∧ Q r) := by
  have hK10 := hK
  unfold f_Model_usefulRuleOf_10 at h
  refine gh_aload_n gd_Model_usefulRuleOf_10 0 rfl (by decide) ?_
  refine gf_63_36 gd_Model_usefulRuleOf_11 gh_k1403 hF ?_
  refine gh_iload_n gd_Model_usefulRuleOf_14 1 rfl ?_
  obtain ⟨q4479, h⟩ := h
  obtain ⟨q4480, h⟩ := h
  refine la_83 gd_Model_usefulRuleOf_15 hF q4479 q4480 rfl ?_
  obtain ⟨J24, hJ24, h⟩ := h
  have hJ24 : gh_F m → J24 → gh_T E (gh_yModel_usefulRuleOf.cls, prog_14_method_108_code, 5, false, 0) (d + 0) 24 [(0, 2, 63), (3, 0, v3), (4, 0, v4)] [] m (fun r m1 => m1 = m ∧ Q r) := by
    intro hF hj
    have h := hJ24 hj
    refine gh_iload gd_Model_usefulRuleOf_24 2 rfl ?_
    refine gh_aload_n gd_Model_usefulRuleOf_26 0 rfl (by decide) ?_
    refine gf_63_36 gd_Model_usefulRuleOf_27 gh_k1403 hF ?_
    refine gh_iload_n gd_Model_usefulRuleOf_30 1 rfl ?_
    obtain ⟨q4481, h⟩ := h
    obtain ⟨q4482, h⟩ := h
    refine la_83 gd_Model_usefulRuleOf_31 hF q4481 q4482 rfl ?_
    have k4483 : ∀ x4484 : Int, x4484 = (if (¬ ((m 83 v3) = 0)) then (1:Int) else 0) → gh_T E (gh_yModel_usefulRuleOf.cls, prog_14_method_108_code, 5, false, 0) (d + 0) 40 [(0, 2, 63), (3, 0, v3), (4, 0, v4)] [(0, x4484), (0, v4)] m (fun r m1 => m1 = m ∧ Q r) := by
      rintro _ rfl
      obtain ⟨q4485, h⟩ := h
      refine gh_isub gd_Model_usefulRuleOf_40 q4485 ?_
      refine gh_name (fun v4' hn => ?_)
      have h := h v4' hn
      refine gh_istore (L2 := [(4, 0, v4'), (0, 2, 63), (3, 0, v3)]) gd_Model_usefulRuleOf_41 (by decide) rfl ?_
      obtain ⟨q4486, h⟩ := h
      refine gh_iinc (L2 := [(3, 0, v3 + 1), (4, 0, v4'), (0, 2, 63)]) gd_Model_usefulRuleOf_43 2 rfl q4486 (by decide) rfl ?_
      refine gh_goto (tgt := 10) gd_Model_usefulRuleOf_46 (by decide) ?_
      refine gh_pick (L2 := [(0, 2, 63), (3, 0, v3 + 1), (4, 0, v4')]) [2, 0, 1] rfl ?_
      exact hK10 (v3 + 1) v4' hF h
    refine gh_zeq (tgt := 39) gd_Model_usefulRuleOf_32 (by decide) (fun c4487 => ?_) (fun c4487 => ?_)
    · have hz : True := trivial
      refine gh_iconst gd_Model_usefulRuleOf_39 (gh_r0 rfl) ?_
      exact k4483 _ (if_neg (c := (¬ ((m 83 v3) = 0))) (not_not_intro c4487)).symm
    · have hz : True := trivial
      refine gh_iconst gd_Model_usefulRuleOf_35 (gh_r0 rfl) ?_
      refine gh_goto (tgt := 40) gd_Model_usefulRuleOf_36 (by decide) ?_
      exact k4483 _ (if_pos (c := (¬ ((m 83 v3) = 0))) c4487).symm
  obtain ⟨hA, hB⟩ := h
  have k4488 : (¬ ((m 83 v3) = 0) ∧ (v4 ≤ 0)) → gh_T E (gh_yModel_usefulRuleOf.cls, prog_14_method_108_code, 5, false, 0) (d + 0) 49 [(0, 2, 63), (3, 0, v3), (4, 0, v4)] [] m (fun r m1 => m1 = m ∧ Q r) := by
    intro c
    have h := hA c
    refine gh_iload_n gd_Model_usefulRuleOf_49 1 rfl ?_
    exact gh_ret0 rfl gd_Model_usefulRuleOf_50 ⟨rfl, h⟩
  have k4489 : ¬ (¬ ((m 83 v3) = 0) ∧ (v4 ≤ 0)) → gh_T E (gh_yModel_usefulRuleOf.cls, prog_14_method_108_code, 5, false, 0) (d + 0) 24 [(0, 2, 63), (3, 0, v3), (4, 0, v4)] [] m (fun r m1 => m1 = m ∧ Q r) := by
    intro c
    have h := hB c
    exact hJ24 hF h
  refine gh_zeq (tgt := 24) gd_Model_usefulRuleOf_16 (by decide) (fun c4490 => ?_) (fun c4490 => ?_)
  · have hz : True := trivial
    exact k4489 (fun z => z.1 c4490)
  · have hz : True := trivial
    refine gh_iload gd_Model_usefulRuleOf_19 2 rfl ?_
    refine gh_zle (tgt := 49) gd_Model_usefulRuleOf_21 (by decide) (fun c4491 => ?_) (fun c4491 => ?_)
    · have hz : True := trivial
      exact k4488 ⟨c4490, c4491⟩
    · have hz : True := trivial
      exact k4489 (fun z => c4491 z.2)
theorem s_Model_usefulRuleOf {E : gh_E} {m : gh_M} {Q : Int → Prop} (d : Nat) (v1 : Int) (v2 : Int) (hF : gh_F m) (h : w_Model_usefulRuleOf v1 v2 m Q) : gh_C E gh_yModel_usefulRuleOf prog_14_method_108_code 5 (some .int) 0 (d + 0) [(2, 63), (0, v1), (0, v2)] m (fun r m1 => m1 = m ∧ Q r) := by
  refine gh_enter2 (L := [(0, 2, 63), (1, 0, v1), (2, 0, v2)]) (by decide +kernel) gh_rt0 (Nat.le_of_ble_eq_true rfl) rfl rfl ?_
  unfold w_Model_usefulRuleOf at h
  refine gh_aload_n gd_Model_usefulRuleOf_0 0 rfl (by decide) ?_
  refine gf_63_30 gd_Model_usefulRuleOf_1 gh_k1397 hF ?_
  refine gh_iload_n gd_Model_usefulRuleOf_4 1 rfl ?_
  obtain ⟨q4477, h⟩ := h
  obtain ⟨q4478, h⟩ := h
  refine la_77 gd_Model_usefulRuleOf_5 hF q4477 q4478 rfl ?_
  refine gh_name (fun v3 hn => ?_)
  have h := h v3 hn
  refine gh_istore_n (L2 := [(3, 0, v3), (0, 2, 63), (1, 0, v1), (2, 0, v2)]) gd_Model_usefulRuleOf_6 (by decide) rfl ?_
  refine gh_iload_n gd_Model_usefulRuleOf_7 3 rfl ?_
  refine gh_istore (L2 := [(4, 0, v2), (3, 0, v3), (0, 2, 63), (1, 0, v1), (2, 0, v2)]) gd_Model_usefulRuleOf_8 (by decide) rfl ?_
  refine gh_pick (L2 := [(0, 2, 63), (3, 0, v3), (4, 0, v2)]) [2, 1, 0] rfl ?_
  exact gh_L2_sound (T := fun v3 v4 => gh_T E (gh_yModel_usefulRuleOf.cls, prog_14_method_108_code, 5, false, 0) (d + 0) 10 [(0, 2, 63), (3, 0, v3), (4, 0, v4)] [] m (fun r m1 => m1 = m ∧ Q r)) (fun _ _ => gh_F m) (fun K10 v3 v4 hK hF h => b_Model_usefulRuleOf_10 d hK v3 v4 hF h) v3 v2 hF h
def f_Model_replaceBy_102 (v1 : Int) (v2 : Int) (Q : Int → gh_M → Prop) (K102 : Int → gh_M → Prop) (v4 : Int) (m : gh_M) : Prop := 0 ≤ v2 ∧ v2 < 20 ∧ ((v4 < (m 80 v2) → gh_i (v1 + v4) ∧ gh_i (4 * v2) ∧ gh_i ((4 * v2) + v4) ∧ 0 ≤ (4 * v2) + v4 ∧ ((4 * v2) + v4) < 80 ∧ 0 ≤ v1 + v4 ∧ (v1 + v4) < 300 ∧ gh_i (v4 + 1) ∧ K102 (v4 + 1) (gh_u m 117 (v1 + v4) (m 81 ((4 * v2) + v4)))) ∧ (¬ (v4 < (m 80 v2)) → Q 0 m))
def f_Model_replaceBy_57 (v1 : Int) (v2 : Int) (v3 : Int) (Q : Int → gh_M → Prop) (K57 : Int → gh_M → Prop) (v4 : Int) (m : gh_M) : Prop := ∃ J89 : gh_M → Prop, (∀ (m : gh_M), J89 m → gh_i ((m 63 82) + v3) ∧ gh_M1 (fun K102 v4 m => f_Model_replaceBy_102 v1 v2 Q K102 v4 m) 0 (gh_u m 63 82 ((m 63 82) + v3))) ∧ ((((v4 ≤ v1) ∨ (v3 ≤ 0)) → J89 m) ∧ (¬ ((v4 ≤ v1) ∨ (v3 ≤ 0)) → gh_i (v4 + v3) ∧ 0 ≤ v4 ∧ v4 < 300 ∧ 0 ≤ v4 + v3 ∧ (v4 + v3) < 300 ∧ gh_i (v4 + (-1)) ∧ K57 (v4 + (-1)) (gh_u m 117 (v4 + v3) (m 117 v4))))
def f_Model_replaceBy_16 (v1 : Int) (v2 : Int) (v3 : Int) (J49 : gh_M → Prop) (K16 : Int → gh_M → Prop) (v4 : Int) (m : gh_M) : Prop := gh_i ((m 63 82) - 1) ∧ ((v4 < ((m 63 82) - 1) → gh_i (v4 + 1) ∧ 0 ≤ v4 + 1 ∧ (v4 + 1) < 300 ∧ 0 ≤ v4 ∧ v4 < 300 ∧ gh_i (v4 + 1) ∧ K16 (v4 + 1) (gh_u m 117 v4 (m 117 (v4 + 1)))) ∧ (¬ (v4 < ((m 63 82) - 1)) → J49 m))
def w_Model_replaceBy (v1 : Int) (v2 : Int) (m : gh_M) (Q : Int → gh_M → Prop) : Prop := 0 ≤ v2 ∧ v2 < 20 ∧ gh_i ((m 80 v2) - 1) ∧ ∀ v3 : Int, v3 = (m 80 v2) - 1 → ∃ J49 : gh_M → Prop, (∀ (m : gh_M), J49 m → gh_i ((m 63 82) - 1) ∧ ∀ v4 : Int, v4 = (m 63 82) - 1 → gh_M1 (fun K57 v4 m => f_Model_replaceBy_57 v1 v2 v3 Q K57 v4 m) v4 m) ∧ ((v3 < 0 → gh_M1 (fun K16 v4 m => f_Model_replaceBy_16 v1 v2 v3 J49 K16 v4 m) v1 m) ∧ (¬ (v3 < 0) → J49 m))
theorem b_Model_replaceBy_102 {E : gh_E} {v1 : Int} {v2 : Int} {Q : Int → gh_M → Prop} {K102 : Int → gh_M → Prop} (d : Nat) (hK : ∀ (v4 : Int) (m : gh_M), gh_F m → K102 v4 m → gh_T E (gh_yModel_replaceBy.cls, prog_14_method_106_code, 5, false, 9) (d + 0) 102 [(0, 2, 63), (1, 0, v1), (2, 0, v2), (4, 0, v4)] [] m (fun r m1 => gh_F m1 ∧ Q r m1)) (v4 : Int) (m : gh_M) (hF : gh_F m) (h : f_Model_replaceBy_102 v1 v2 Q K102 v4 m) : gh_T E (gh_yModel_replaceBy.cls, prog_14_method_106_code, 5, false, 9) (d + 0) 102 [(0, 2, 63), (1, 0, v1), (2, 0, v2), (4, 0, v4)] [] m (fun r m1 => gh_F m1 ∧ Q r m1) := by
  have hK102 := hK
  unfold f_Model_replaceBy_102 at h
  refine gh_iload gd_Model_replaceBy_102 3 rfl ?_
  refine gh_aload_n gd_Model_replaceBy_104 0 rfl (by decide) ?_
  refine gf_63_33 gd_Model_replaceBy_105 gh_k1400 hF ?_
  refine gh_iload_n gd_Model_replaceBy_108 2 rfl ?_
  obtain ⟨q4497, h⟩ := h
  obtain ⟨q4498, h⟩ := h
  refine la_80 gd_Model_replaceBy_109 hF q4497 q4498 rfl ?_
  obtain ⟨hA, hB⟩ := h
  refine gh_jge (tgt := 139) gd_Model_replaceBy_110 (by decide) (fun c4499 => ?_) (fun c4499 => ?_)
  · have h := hA c4499
    refine gh_aload_n gd_Model_replaceBy_113 0 rfl (by decide) ?_
    refine gf_63_81 gd_Model_replaceBy_114 gh_k1448 hF ?_
    refine gh_iload_n gd_Model_replaceBy_117 1 rfl ?_
    refine gh_iload gd_Model_replaceBy_118 3 rfl ?_
    obtain ⟨q4500, h⟩ := h
    refine gh_iadd gd_Model_replaceBy_120 q4500 ?_
    refine gh_aload_n gd_Model_replaceBy_121 0 rfl (by decide) ?_
    refine gf_63_34 gd_Model_replaceBy_122 gh_k1401 hF ?_
    refine gh_iconst gd_Model_replaceBy_125 (gh_r0 rfl) ?_
    refine gh_iload_n gd_Model_replaceBy_126 2 rfl ?_
    obtain ⟨q4501, h⟩ := h
    refine gh_imul gd_Model_replaceBy_127 q4501 ?_
    refine gh_iload gd_Model_replaceBy_128 3 rfl ?_
    obtain ⟨q4502, h⟩ := h
    refine gh_iadd gd_Model_replaceBy_130 q4502 ?_
    obtain ⟨q4503, h⟩ := h
    obtain ⟨q4504, h⟩ := h
    refine la_81 gd_Model_replaceBy_131 hF q4503 q4504 rfl ?_
    obtain ⟨q4505, h⟩ := h
    obtain ⟨q4506, h⟩ := h
    refine sa_117 gd_Model_replaceBy_132 hF q4505 q4506 (fun hF => ?_)
    obtain ⟨q4507, h⟩ := h
    refine gh_iinc (L2 := [(4, 0, v4 + 1), (0, 2, 63), (1, 0, v1), (2, 0, v2)]) gd_Model_replaceBy_133 3 rfl q4507 (by decide) rfl ?_
    refine gh_goto (tgt := 102) gd_Model_replaceBy_136 (by decide) ?_
    refine gh_pick (L2 := [(0, 2, 63), (1, 0, v1), (2, 0, v2), (4, 0, v4 + 1)]) [1, 2, 3, 0] rfl ?_
    exact hK102 (v4 + 1) (gh_u m 117 (v1 + v4) (m 81 ((4 * v2) + v4))) hF h
  · have h := hB c4499
    exact gh_ret9 rfl gd_Model_replaceBy_139 ⟨hF, h⟩
theorem b_Model_replaceBy_57 {E : gh_E} {v1 : Int} {v2 : Int} {v3 : Int} {Q : Int → gh_M → Prop} {K57 : Int → gh_M → Prop} (d : Nat) (hK : ∀ (v4 : Int) (m : gh_M), gh_F m → K57 v4 m → gh_T E (gh_yModel_replaceBy.cls, prog_14_method_106_code, 5, false, 9) (d + 0) 57 [(0, 2, 63), (1, 0, v1), (2, 0, v2), (3, 0, v3), (4, 0, v4)] [] m (fun r m1 => gh_F m1 ∧ Q r m1)) (v4 : Int) (m : gh_M) (hF : gh_F m) (h : f_Model_replaceBy_57 v1 v2 v3 Q K57 v4 m) : gh_T E (gh_yModel_replaceBy.cls, prog_14_method_106_code, 5, false, 9) (d + 0) 57 [(0, 2, 63), (1, 0, v1), (2, 0, v2), (3, 0, v3), (4, 0, v4)] [] m (fun r m1 => gh_F m1 ∧ Q r m1) := by
  have hK57 := hK
  unfold f_Model_replaceBy_57 at h
  refine gh_iload gd_Model_replaceBy_57 4 rfl ?_
  refine gh_iload_n gd_Model_replaceBy_59 1 rfl ?_
  obtain ⟨J89, hJ89, h⟩ := h
  have hJ89 : ∀ (m : gh_M), gh_F m → J89 m → gh_T E (gh_yModel_replaceBy.cls, prog_14_method_106_code, 5, false, 9) (d + 0) 89 [(0, 2, 63), (1, 0, v1), (2, 0, v2), (3, 0, v3)] [] m (fun r m1 => gh_F m1 ∧ Q r m1) := by
    intro m hF hj
    have h := hJ89 m hj
    refine gh_aload_n gd_Model_replaceBy_89 0 rfl (by decide) ?_
    refine gh_dup gd_Model_replaceBy_90 (by decide) ?_
    refine gf_63_82 gd_Model_replaceBy_91 gh_k1449 hF rfl ?_
    refine gh_iload_n gd_Model_replaceBy_94 3 rfl ?_
    obtain ⟨q4496, h⟩ := h
    refine gh_iadd gd_Model_replaceBy_95 q4496 ?_
    refine pf_63_82 gd_Model_replaceBy_96 gh_k1449 hF (fun hF => ?_)
    refine gh_iconst gd_Model_replaceBy_99 (gh_r0 rfl) ?_
    refine gh_istore (L2 := [(4, 0, 0), (0, 2, 63), (1, 0, v1), (2, 0, v2), (3, 0, v3)]) gd_Model_replaceBy_100 (by decide) rfl ?_
    refine gh_pick (L2 := [(0, 2, 63), (1, 0, v1), (2, 0, v2), (4, 0, 0)]) [1, 2, 3, 0] rfl ?_
    exact gh_M1_sound (T := fun v4 m => gh_T E (gh_yModel_replaceBy.cls, prog_14_method_106_code, 5, false, 9) (d + 0) 102 [(0, 2, 63), (1, 0, v1), (2, 0, v2), (4, 0, v4)] [] m (fun r m1 => gh_F m1 ∧ Q r m1)) (fun _ m => gh_F m) (fun K102 v4 m hK hF h => b_Model_replaceBy_102 d hK v4 m hF h) 0 (gh_u m 63 82 ((m 63 82) + v3)) hF h
  obtain ⟨hA, hB⟩ := h
  have k4508 : ((v4 ≤ v1) ∨ (v3 ≤ 0)) → gh_T E (gh_yModel_replaceBy.cls, prog_14_method_106_code, 5, false, 9) (d + 0) 89 [(0, 2, 63), (1, 0, v1), (2, 0, v2), (3, 0, v3), (4, 0, v4)] [] m (fun r m1 => gh_F m1 ∧ Q r m1) := by
    intro c
    have h := hA c
    refine gh_pick (L2 := [(0, 2, 63), (1, 0, v1), (2, 0, v2), (3, 0, v3)]) [0, 1, 2, 3] rfl ?_
    exact hJ89 m hF h
  have k4509 : ¬ ((v4 ≤ v1) ∨ (v3 ≤ 0)) → gh_T E (gh_yModel_replaceBy.cls, prog_14_method_106_code, 5, false, 9) (d + 0) 67 [(0, 2, 63), (1, 0, v1), (2, 0, v2), (3, 0, v3), (4, 0, v4)] [] m (fun r m1 => gh_F m1 ∧ Q r m1) := by
    intro c
    have h := hB c
    refine gh_aload_n gd_Model_replaceBy_67 0 rfl (by decide) ?_
    refine gf_63_81 gd_Model_replaceBy_68 gh_k1448 hF ?_
    refine gh_iload gd_Model_replaceBy_71 4 rfl ?_
    refine gh_iload_n gd_Model_replaceBy_73 3 rfl ?_
    obtain ⟨q4510, h⟩ := h
    refine gh_iadd gd_Model_replaceBy_74 q4510 ?_
    refine gh_aload_n gd_Model_replaceBy_75 0 rfl (by decide) ?_
    refine gf_63_81 gd_Model_replaceBy_76 gh_k1448 hF ?_
    refine gh_iload gd_Model_replaceBy_79 4 rfl ?_
    obtain ⟨q4511, h⟩ := h
    obtain ⟨q4512, h⟩ := h
    refine la_117 gd_Model_replaceBy_81 hF q4511 q4512 rfl ?_
    obtain ⟨q4513, h⟩ := h
    obtain ⟨q4514, h⟩ := h
    refine sa_117 gd_Model_replaceBy_82 hF q4513 q4514 (fun hF => ?_)
    obtain ⟨q4515, h⟩ := h
    refine gh_iinc (L2 := [(4, 0, v4 + (-1)), (0, 2, 63), (1, 0, v1), (2, 0, v2), (3, 0, v3)]) gd_Model_replaceBy_83 4 rfl q4515 (by decide) rfl ?_
    refine gh_goto (tgt := 57) gd_Model_replaceBy_86 (by decide) ?_
    refine gh_pick (L2 := [(0, 2, 63), (1, 0, v1), (2, 0, v2), (3, 0, v3), (4, 0, v4 + (-1))]) [1, 2, 3, 4, 0] rfl ?_
    exact hK57 (v4 + (-1)) (gh_u m 117 (v4 + v3) (m 117 v4)) hF h
  refine gh_jle (tgt := 89) gd_Model_replaceBy_60 (by decide) (fun c4516 => ?_) (fun c4516 => ?_)
  · have hz : True := trivial
    exact k4508 (Or.inl c4516)
  · have hz : True := trivial
    refine gh_iload_n gd_Model_replaceBy_63 3 rfl ?_
    refine gh_zle (tgt := 89) gd_Model_replaceBy_64 (by decide) (fun c4517 => ?_) (fun c4517 => ?_)
    · have hz : True := trivial
      exact k4508 (Or.inr c4517)
    · have hz : True := trivial
      exact k4509 (fun z => z.elim c4516 c4517)
theorem b_Model_replaceBy_16 {E : gh_E} {v1 : Int} {v2 : Int} {v3 : Int} {J49 : gh_M → Prop} {Q : Int → gh_M → Prop} {K16 : Int → gh_M → Prop} (d : Nat) (hJ49 : ∀ (m : gh_M), gh_F m → J49 m → gh_T E (gh_yModel_replaceBy.cls, prog_14_method_106_code, 5, false, 9) (d + 0) 49 [(0, 2, 63), (1, 0, v1), (2, 0, v2), (3, 0, v3)] [] m (fun r m1 => gh_F m1 ∧ Q r m1)) (hK : ∀ (v4 : Int) (m : gh_M), gh_F m → K16 v4 m → gh_T E (gh_yModel_replaceBy.cls, prog_14_method_106_code, 5, false, 9) (d + 0) 16 [(0, 2, 63), (1, 0, v1), (2, 0, v2), (3, 0, v3), (4, 0, v4)] [] m (fun r m1 => gh_F m1 ∧ Q r m1)) (v4 : Int) (m : gh_M) (hF : gh_F m) (h : f_Model_replaceBy_16 v1 v2 v3 J49 K16 v4 m) : gh_T E (gh_yModel_replaceBy.cls, prog_14_method_106_code, 5, false, 9) (d + 0) 16 [(0, 2, 63), (1, 0, v1), (2, 0, v2), (3, 0, v3), (4, 0, v4)] [] m (fun r m1 => gh_F m1 ∧ Q r m1) := by
  have hK16 := hK
  unfold f_Model_replaceBy_16 at h
  refine gh_iload gd_Model_replaceBy_16 4 rfl ?_
  refine gh_aload_n gd_Model_replaceBy_18 0 rfl (by decide) ?_
  refine gf_63_82 gd_Model_replaceBy_19 gh_k1449 hF rfl ?_
  refine gh_iconst gd_Model_replaceBy_22 (gh_r0 rfl) ?_
  obtain ⟨q4519, h⟩ := h
  refine gh_isub gd_Model_replaceBy_23 q4519 ?_
  obtain ⟨hA, hB⟩ := h
  refine gh_jge (tgt := 49) gd_Model_replaceBy_24 (by decide) (fun c4520 => ?_) (fun c4520 => ?_)
  · have h := hA c4520
    refine gh_aload_n gd_Model_replaceBy_27 0 rfl (by decide) ?_
    refine gf_63_81 gd_Model_replaceBy_28 gh_k1448 hF ?_
    refine gh_iload gd_Model_replaceBy_31 4 rfl ?_
    refine gh_aload_n gd_Model_replaceBy_33 0 rfl (by decide) ?_
    refine gf_63_81 gd_Model_replaceBy_34 gh_k1448 hF ?_
    refine gh_iload gd_Model_replaceBy_37 4 rfl ?_
    refine gh_iconst gd_Model_replaceBy_39 (gh_r0 rfl) ?_
    obtain ⟨q4521, h⟩ := h
    refine gh_iadd gd_Model_replaceBy_40 q4521 ?_
    obtain ⟨q4522, h⟩ := h
    obtain ⟨q4523, h⟩ := h
    refine la_117 gd_Model_replaceBy_41 hF q4522 q4523 rfl ?_
    obtain ⟨q4524, h⟩ := h
    obtain ⟨q4525, h⟩ := h
    refine sa_117 gd_Model_replaceBy_42 hF q4524 q4525 (fun hF => ?_)
    obtain ⟨q4526, h⟩ := h
    refine gh_iinc (L2 := [(4, 0, v4 + 1), (0, 2, 63), (1, 0, v1), (2, 0, v2), (3, 0, v3)]) gd_Model_replaceBy_43 4 rfl q4526 (by decide) rfl ?_
    refine gh_goto (tgt := 16) gd_Model_replaceBy_46 (by decide) ?_
    refine gh_pick (L2 := [(0, 2, 63), (1, 0, v1), (2, 0, v2), (3, 0, v3), (4, 0, v4 + 1)]) [1, 2, 3, 4, 0] rfl ?_
    exact hK16 (v4 + 1) (gh_u m 117 v4 (m 117 (v4 + 1))) hF h
  · have h := hB c4520
    refine gh_pick (L2 := [(0, 2, 63), (1, 0, v1), (2, 0, v2), (3, 0, v3)]) [0, 1, 2, 3] rfl ?_
    exact hJ49 m hF h
theorem s_Model_replaceBy {E : gh_E} {m : gh_M} {Q : Int → gh_M → Prop} (d : Nat) (v1 : Int) (v2 : Int) (hF : gh_F m) (h : w_Model_replaceBy v1 v2 m Q) : gh_C E gh_yModel_replaceBy prog_14_method_106_code 5 none 9 (d + 0) [(2, 63), (0, v1), (0, v2)] m (fun r m1 => gh_F m1 ∧ Q r m1) := by
  refine gh_enter2 (L := [(0, 2, 63), (1, 0, v1), (2, 0, v2)]) (by decide +kernel) gh_rt9 (Nat.le_of_ble_eq_true rfl) rfl rfl ?_
  unfold w_Model_replaceBy at h
  refine gh_aload_n gd_Model_replaceBy_0 0 rfl (by decide) ?_
  refine gf_63_33 gd_Model_replaceBy_1 gh_k1400 hF ?_
  refine gh_iload_n gd_Model_replaceBy_4 2 rfl ?_
  obtain ⟨q4492, h⟩ := h
  obtain ⟨q4493, h⟩ := h
  refine la_80 gd_Model_replaceBy_5 hF q4492 q4493 rfl ?_
  refine gh_iconst gd_Model_replaceBy_6 (gh_r0 rfl) ?_
  obtain ⟨q4494, h⟩ := h
  refine gh_isub gd_Model_replaceBy_7 q4494 ?_
  refine gh_name (fun v3 hn => ?_)
  have h := h v3 hn
  refine gh_istore_n (L2 := [(3, 0, v3), (0, 2, 63), (1, 0, v1), (2, 0, v2)]) gd_Model_replaceBy_8 (by decide) rfl ?_
  refine gh_iload_n gd_Model_replaceBy_9 0 rfl ?_
  obtain ⟨J49, hJ49, h⟩ := h
  have hJ49 : ∀ (m : gh_M), gh_F m → J49 m → gh_T E (gh_yModel_replaceBy.cls, prog_14_method_106_code, 5, false, 9) (d + 0) 49 [(0, 2, 63), (1, 0, v1), (2, 0, v2), (3, 0, v3)] [] m (fun r m1 => gh_F m1 ∧ Q r m1) := by
    intro m hF hj
    have h := hJ49 m hj
    refine gh_aload_n gd_Model_replaceBy_49 0 rfl (by decide) ?_
    refine gf_63_82 gd_Model_replaceBy_50 gh_k1449 hF rfl ?_
    refine gh_iconst gd_Model_replaceBy_53 (gh_r0 rfl) ?_
    obtain ⟨q4495, h⟩ := h
    refine gh_isub gd_Model_replaceBy_54 q4495 ?_
    refine gh_name (fun v4 hn => ?_)
    have h := h v4 hn
    refine gh_istore (L2 := [(4, 0, v4), (0, 2, 63), (1, 0, v1), (2, 0, v2), (3, 0, v3)]) gd_Model_replaceBy_55 (by decide) rfl ?_
    refine gh_pick (L2 := [(0, 2, 63), (1, 0, v1), (2, 0, v2), (3, 0, v3), (4, 0, v4)]) [1, 2, 3, 4, 0] rfl ?_
    exact gh_M1_sound (T := fun v4 m => gh_T E (gh_yModel_replaceBy.cls, prog_14_method_106_code, 5, false, 9) (d + 0) 57 [(0, 2, 63), (1, 0, v1), (2, 0, v2), (3, 0, v3), (4, 0, v4)] [] m (fun r m1 => gh_F m1 ∧ Q r m1)) (fun _ m => gh_F m) (fun K57 v4 m hK hF h => b_Model_replaceBy_57 d hK v4 m hF h) v4 m hF h
  obtain ⟨hA, hB⟩ := h
  refine gh_zge (tgt := 49) gd_Model_replaceBy_10 (by decide) (fun c4518 => ?_) (fun c4518 => ?_)
  · have h := hA c4518
    refine gh_iload_n gd_Model_replaceBy_13 2 rfl ?_
    refine gh_istore (L2 := [(4, 0, v1), (3, 0, v3), (0, 2, 63), (1, 0, v1), (2, 0, v2)]) gd_Model_replaceBy_14 (by decide) rfl ?_
    refine gh_pick (L2 := [(0, 2, 63), (1, 0, v1), (2, 0, v2), (3, 0, v3), (4, 0, v1)]) [2, 3, 4, 1, 0] rfl ?_
    exact gh_M1_sound (T := fun v4 m => gh_T E (gh_yModel_replaceBy.cls, prog_14_method_106_code, 5, false, 9) (d + 0) 16 [(0, 2, 63), (1, 0, v1), (2, 0, v2), (3, 0, v3), (4, 0, v4)] [] m (fun r m1 => gh_F m1 ∧ Q r m1)) (fun _ m => gh_F m) (fun K16 v4 m hK hF h => b_Model_replaceBy_16 d hJ49 hK v4 m hF h) v1 m hF h
  · have h := hB c4518
    refine gh_pick (L2 := [(0, 2, 63), (1, 0, v1), (2, 0, v2), (3, 0, v3)]) [1, 2, 3, 0] rfl ?_
    exact hJ49 m hF h
def f_Model_lettersIn_4 (v0 : Int) (Q : Int → Prop) (m : gh_M) (K4 : Int → Int → Prop) (v1 : Int) (v2 : Int) : Prop := ((v2 < 26 → gh_i (v1 + (gh_iand_f (gh_ishr_f v0 v2) 1)) ∧ ∀ v1' : Int, v1' = v1 + (gh_iand_f (gh_ishr_f v0 v2) 1) → gh_i (v2 + 1) ∧ K4 v1' (v2 + 1)) ∧ (¬ (v2 < 26) → Q v1))
def w_Model_lettersIn (v0 : Int) (m : gh_M) (Q : Int → Prop) : Prop := gh_L2 (fun K4 v1 v2 => f_Model_lettersIn_4 v0 Q m K4 v1 v2) 0 0
theorem b_Model_lettersIn_4 {E : gh_E} {v0 : Int} {Q : Int → Prop} {K4 : Int → Int → Prop} (d : Nat) {m : gh_M} (hK : ∀ (v1 : Int) (v2 : Int), gh_F m → K4 v1 v2 → gh_T E (gh_yModel_lettersIn.cls, prog_14_method_109_code, 3, false, 0) (d + 0) 4 [(0, 0, v0), (1, 0, v1), (2, 0, v2)] [] m (fun r m1 => m1 = m ∧ Q r)) (v1 : Int) (v2 : Int) (hF : gh_F m) (h : f_Model_lettersIn_4 v0 Q m K4 v1 v2) : gh_T E (gh_yModel_lettersIn.cls, prog_14_method_109_code, 3, false, 0) (d + 0) 4 [(0, 0, v0), (1, 0, v1), (2, 0, v2)] [] m (fun r m1 => m1 = m ∧ Q r) := by
  have hK4 := hK
  unfold f_Model_lettersIn_4 at h
  refine gh_iload_n gd_Model_lettersIn_4 2 rfl ?_
  refine gh_bipush gd_Model_lettersIn_5 (by decide) (gh_r0 rfl) ?_
  obtain ⟨hA, hB⟩ := h
  refine gh_jge (tgt := 24) gd_Model_lettersIn_7 (by decide) (fun c4527 => ?_) (fun c4527 => ?_)
  · have h := hA c4527
    refine gh_iload_n gd_Model_lettersIn_10 1 rfl ?_
    refine gh_iload_n gd_Model_lettersIn_11 0 rfl ?_
    refine gh_iload_n gd_Model_lettersIn_12 2 rfl ?_
    refine gh_ishr gd_Model_lettersIn_13 ?_
    refine gh_iconst gd_Model_lettersIn_14 (gh_r0 rfl) ?_
    refine gh_iand gd_Model_lettersIn_15 ?_
    obtain ⟨q4528, h⟩ := h
    refine gh_iadd gd_Model_lettersIn_16 q4528 ?_
    refine gh_name (fun v1' hn => ?_)
    have h := h v1' hn
    refine gh_istore_n (L2 := [(1, 0, v1'), (0, 0, v0), (2, 0, v2)]) gd_Model_lettersIn_17 (by decide) rfl ?_
    obtain ⟨q4529, h⟩ := h
    refine gh_iinc (L2 := [(2, 0, v2 + 1), (1, 0, v1'), (0, 0, v0)]) gd_Model_lettersIn_18 2 rfl q4529 (by decide) rfl ?_
    refine gh_goto (tgt := 4) gd_Model_lettersIn_21 (by decide) ?_
    refine gh_pick (L2 := [(0, 0, v0), (1, 0, v1'), (2, 0, v2 + 1)]) [2, 1, 0] rfl ?_
    exact hK4 v1' (v2 + 1) hF h
  · have h := hB c4527
    refine gh_iload_n gd_Model_lettersIn_24 1 rfl ?_
    exact gh_ret0 rfl gd_Model_lettersIn_25 ⟨rfl, h⟩
theorem s_Model_lettersIn {E : gh_E} {m : gh_M} {Q : Int → Prop} (d : Nat) (v0 : Int) (hF : gh_F m) (h : w_Model_lettersIn v0 m Q) : gh_C E gh_yModel_lettersIn prog_14_method_109_code 3 (some .int) 0 (d + 0) [(0, v0)] m (fun r m1 => m1 = m ∧ Q r) := by
  refine gh_enter2 (L := [(0, 0, v0)]) (by decide +kernel) gh_rt0 (Nat.le_of_ble_eq_true rfl) rfl rfl ?_
  unfold w_Model_lettersIn at h
  refine gh_iconst gd_Model_lettersIn_0 (gh_r0 rfl) ?_
  refine gh_istore_n (L2 := [(1, 0, 0), (0, 0, v0)]) gd_Model_lettersIn_1 (by decide) rfl ?_
  refine gh_iconst gd_Model_lettersIn_2 (gh_r0 rfl) ?_
  refine gh_istore_n (L2 := [(2, 0, 0), (1, 0, 0), (0, 0, v0)]) gd_Model_lettersIn_3 (by decide) rfl ?_
  refine gh_pick (L2 := [(0, 0, v0), (1, 0, 0), (2, 0, 0)]) [2, 1, 0] rfl ?_
  exact gh_L2_sound (T := fun v1 v2 => gh_T E (gh_yModel_lettersIn.cls, prog_14_method_109_code, 3, false, 0) (d + 0) 4 [(0, 0, v0), (1, 0, v1), (2, 0, v2)] [] m (fun r m1 => m1 = m ∧ Q r)) (fun _ _ => gh_F m) (fun K4 v1 v2 hK hF h => b_Model_lettersIn_4 d hK v1 v2 hF h) 0 0 hF h
def f_Model_letterOf_4 (v0 : Int) (Q : Int → Prop) (m : gh_M) (K4 : Int → Int → Prop) (v2 : Int) (v3 : Int) : Prop := ∃ J16 : Prop, (J16 → gh_i (v3 - (gh_iand_f (gh_ishr_f v0 v2) 1)) ∧ ∀ v3' : Int, v3' = v3 - (gh_iand_f (gh_ishr_f v0 v2) 1) → gh_i (v2 + 1) ∧ K4 (v2 + 1) v3') ∧ (((¬ ((gh_iand_f (gh_ishr_f v0 v2) 1) = 0) ∧ (v3 ≤ 0)) → Q v2) ∧ (¬ (¬ ((gh_iand_f (gh_ishr_f v0 v2) 1) = 0) ∧ (v3 ≤ 0)) → J16))
def w_Model_letterOf (v0 : Int) (v1 : Int) (m : gh_M) (Q : Int → Prop) : Prop := gh_L2 (fun K4 v2 v3 => f_Model_letterOf_4 v0 Q m K4 v2 v3) 0 v1
theorem b_Model_letterOf_4 {E : gh_E} {v0 : Int} {Q : Int → Prop} {K4 : Int → Int → Prop} (d : Nat) {m : gh_M} (hK : ∀ (v2 : Int) (v3 : Int), gh_F m → K4 v2 v3 → gh_T E (gh_yModel_letterOf.cls, prog_14_method_110_code, 4, false, 0) (d + 0) 4 [(0, 0, v0), (2, 0, v2), (3, 0, v3)] [] m (fun r m1 => m1 = m ∧ Q r)) (v2 : Int) (v3 : Int) (hF : gh_F m) (h : f_Model_letterOf_4 v0 Q m K4 v2 v3) : gh_T E (gh_yModel_letterOf.cls, prog_14_method_110_code, 4, false, 0) (d + 0) 4 [(0, 0, v0), (2, 0, v2), (3, 0, v3)] [] m (fun r m1 => m1 = m ∧ Q r) := by
  have hK4 := hK
  unfold f_Model_letterOf_4 at h
  refine gh_iload_n gd_Model_letterOf_4 0 rfl ?_
  refine gh_iload_n gd_Model_letterOf_5 1 rfl ?_
  refine gh_ishr gd_Model_letterOf_6 ?_
  refine gh_iconst gd_Model_letterOf_7 (gh_r0 rfl) ?_
  refine gh_iand gd_Model_letterOf_8 ?_
  obtain ⟨J16, hJ16, h⟩ := h
  have hJ16 : gh_F m → J16 → gh_T E (gh_yModel_letterOf.cls, prog_14_method_110_code, 4, false, 0) (d + 0) 16 [(0, 0, v0), (2, 0, v2), (3, 0, v3)] [] m (fun r m1 => m1 = m ∧ Q r) := by
    intro hF hj
    have h := hJ16 hj
    refine gh_iload_n gd_Model_letterOf_16 2 rfl ?_
    refine gh_iload_n gd_Model_letterOf_17 0 rfl ?_
    refine gh_iload_n gd_Model_letterOf_18 1 rfl ?_
    refine gh_ishr gd_Model_letterOf_19 ?_
    refine gh_iconst gd_Model_letterOf_20 (gh_r0 rfl) ?_
    refine gh_iand gd_Model_letterOf_21 ?_
    obtain ⟨q4530, h⟩ := h
    refine gh_isub gd_Model_letterOf_22 q4530 ?_
    refine gh_name (fun v3' hn => ?_)
    have h := h v3' hn
    refine gh_istore_n (L2 := [(3, 0, v3'), (0, 0, v0), (2, 0, v2)]) gd_Model_letterOf_23 (by decide) rfl ?_
    obtain ⟨q4531, h⟩ := h
    refine gh_iinc (L2 := [(2, 0, v2 + 1), (3, 0, v3'), (0, 0, v0)]) gd_Model_letterOf_24 2 rfl q4531 (by decide) rfl ?_
    refine gh_goto (tgt := 4) gd_Model_letterOf_27 (by decide) ?_
    refine gh_pick (L2 := [(0, 0, v0), (2, 0, v2 + 1), (3, 0, v3')]) [2, 0, 1] rfl ?_
    exact hK4 (v2 + 1) v3' hF h
  obtain ⟨hA, hB⟩ := h
  have k4532 : (¬ ((gh_iand_f (gh_ishr_f v0 v2) 1) = 0) ∧ (v3 ≤ 0)) → gh_T E (gh_yModel_letterOf.cls, prog_14_method_110_code, 4, false, 0) (d + 0) 30 [(0, 0, v0), (2, 0, v2), (3, 0, v3)] [] m (fun r m1 => m1 = m ∧ Q r) := by
    intro c
    have h := hA c
    refine gh_iload_n gd_Model_letterOf_30 1 rfl ?_
    exact gh_ret0 rfl gd_Model_letterOf_31 ⟨rfl, h⟩
  have k4533 : ¬ (¬ ((gh_iand_f (gh_ishr_f v0 v2) 1) = 0) ∧ (v3 ≤ 0)) → gh_T E (gh_yModel_letterOf.cls, prog_14_method_110_code, 4, false, 0) (d + 0) 16 [(0, 0, v0), (2, 0, v2), (3, 0, v3)] [] m (fun r m1 => m1 = m ∧ Q r) := by
    intro c
    have h := hB c
    exact hJ16 hF h
  refine gh_zeq (tgt := 16) gd_Model_letterOf_9 (by decide) (fun c4534 => ?_) (fun c4534 => ?_)
  · have hz : True := trivial
    exact k4533 (fun z => z.1 c4534)
  · have hz : True := trivial
    refine gh_iload_n gd_Model_letterOf_12 2 rfl ?_
    refine gh_zle (tgt := 30) gd_Model_letterOf_13 (by decide) (fun c4535 => ?_) (fun c4535 => ?_)
    · have hz : True := trivial
      exact k4532 ⟨c4534, c4535⟩
    · have hz : True := trivial
      exact k4533 (fun z => c4535 z.2)
theorem s_Model_letterOf {E : gh_E} {m : gh_M} {Q : Int → Prop} (d : Nat) (v0 : Int) (v1 : Int) (hF : gh_F m) (h : w_Model_letterOf v0 v1 m Q) : gh_C E gh_yModel_letterOf prog_14_method_110_code 4 (some .int) 0 (d + 0) [(0, v0), (0, v1)] m (fun r m1 => m1 = m ∧ Q r) := by
  refine gh_enter2 (L := [(0, 0, v0), (1, 0, v1)]) (by decide +kernel) gh_rt0 (Nat.le_of_ble_eq_true rfl) rfl rfl ?_
  unfold w_Model_letterOf at h
  refine gh_iconst gd_Model_letterOf_0 (gh_r0 rfl) ?_
  refine gh_istore_n (L2 := [(2, 0, 0), (0, 0, v0), (1, 0, v1)]) gd_Model_letterOf_1 (by decide) rfl ?_
  refine gh_iload_n gd_Model_letterOf_2 2 rfl ?_
  refine gh_istore_n (L2 := [(3, 0, v1), (2, 0, 0), (0, 0, v0), (1, 0, v1)]) gd_Model_letterOf_3 (by decide) rfl ?_
  refine gh_pick (L2 := [(0, 0, v0), (2, 0, 0), (3, 0, v1)]) [2, 1, 0] rfl ?_
  exact gh_L2_sound (T := fun v2 v3 => gh_T E (gh_yModel_letterOf.cls, prog_14_method_110_code, 4, false, 0) (d + 0) 4 [(0, 0, v0), (2, 0, v2), (3, 0, v3)] [] m (fun r m1 => m1 = m ∧ Q r)) (fun _ _ => gh_F m) (fun K4 v2 v3 hK hF h => b_Model_letterOf_4 d hK v2 v3 hF h) 0 v1 hF h
def f_Model_drawText_16 (Q : Int → gh_M → Prop) (K16 : Int → Int → gh_M → Prop) (v1 : Int) (v2 : Int) (m : gh_M) : Prop := ((v1 < (m 63 82) → ((v2 = 60 → Q (-1) m) ∧ (¬ (v2 = 60) → gh_i (v2 + 1) ∧ 0 ≤ v1 ∧ v1 < 300 ∧ ∀ v3 : Int, v3 = m 117 v1 → ∃ J101 : Int → gh_M → Prop, (∀ (v1' : Int) (m : gh_M), J101 v1' m → K16 v1' (v2 + 1) m) ∧ ((v3 < 0 → gh_i ((-1) - v3) ∧ gh_i ((-1) - v3) ∧ w_Model_usefulRulesOf ((-1) - v3) m (fun r4544 => w_Model_draw r4544 m (fun r4546 m4547 => w_Model_usefulRuleOf ((-1) - v3) r4546 m4547 (fun r4548 => w_Model_replaceBy v1 r4548 m4547 (fun _ m4551 => J101 v1 m4551))))) ∧ (¬ (v3 < 0) → w_Model_lettersIn v3 m (fun r4552 => w_Model_draw r4552 m (fun r4554 m4555 => w_Model_letterOf v3 r4554 m4555 (fun r4556 => 0 ≤ v1 ∧ v1 < 300 ∧ gh_i (v1 + 1) ∧ (((v1 + 1) ≤ 8 → J101 (v1 + 1) (gh_u m4555 117 v1 r4556)) ∧ (¬ ((v1 + 1) ≤ 8) → Q (-1) (gh_u m4555 117 v1 r4556))))))))))) ∧ (¬ (v1 < (m 63 82)) → Q v1 m))
def w_Model_drawText (m : gh_M) (Q : Int → gh_M → Prop) : Prop := gh_M2 (fun K16 v1 v2 m => f_Model_drawText_16 Q K16 v1 v2 m) 0 0 (gh_u (gh_u m 117 0 (-1)) 63 82 1)
theorem b_Model_drawText_16 {E : gh_E} {Q : Int → gh_M → Prop} {K16 : Int → Int → gh_M → Prop} (d : Nat) (hK : ∀ (v1 : Int) (v2 : Int) (m : gh_M), gh_F m → K16 v1 v2 m → gh_T E (gh_yModel_drawText.cls, prog_14_method_111_code, 4, false, 0) (d + 1) 16 [(0, 2, 63), (1, 0, v1), (2, 0, v2)] [] m (fun r m1 => gh_F m1 ∧ Q r m1)) (v1 : Int) (v2 : Int) (m : gh_M) (hF : gh_F m) (h : f_Model_drawText_16 Q K16 v1 v2 m) : gh_T E (gh_yModel_drawText.cls, prog_14_method_111_code, 4, false, 0) (d + 1) 16 [(0, 2, 63), (1, 0, v1), (2, 0, v2)] [] m (fun r m1 => gh_F m1 ∧ Q r m1) := by
  have hK16 := hK
  unfold f_Model_drawText_16 at h
  refine gh_iload_n gd_Model_drawText_16 1 rfl ?_
  refine gh_aload_n gd_Model_drawText_17 0 rfl (by decide) ?_
  refine gf_63_82 gd_Model_drawText_18 gh_k1449 hF rfl ?_
  obtain ⟨hA, hB⟩ := h
  refine gh_jge (tgt := 104) gd_Model_drawText_21 (by decide) (fun c4536 => ?_) (fun c4536 => ?_)
  · have h := hA c4536
    refine gh_iload_n gd_Model_drawText_24 2 rfl ?_
    refine gh_bipush gd_Model_drawText_25 (by decide) (gh_r0 rfl) ?_
    obtain ⟨hA, hB⟩ := h
    refine gh_jne (tgt := 32) gd_Model_drawText_27 (by decide) (fun c4537 => ?_) (fun c4537 => ?_)
    · have h := hA c4537
      refine gh_iconst gd_Model_drawText_30 (gh_r0 rfl) ?_
      exact gh_ret0 rfl gd_Model_drawText_31 ⟨hF, h⟩
    · have h := hB c4537
      obtain ⟨q4538, h⟩ := h
      refine gh_iinc (L2 := [(2, 0, v2 + 1), (0, 2, 63), (1, 0, v1)]) gd_Model_drawText_32 2 rfl q4538 (by decide) rfl ?_
      refine gh_aload_n gd_Model_drawText_35 1 rfl (by decide) ?_
      refine gf_63_81 gd_Model_drawText_36 gh_k1448 hF ?_
      refine gh_iload_n gd_Model_drawText_39 2 rfl ?_
      obtain ⟨q4539, h⟩ := h
      obtain ⟨q4540, h⟩ := h
      refine la_117 gd_Model_drawText_40 hF q4539 q4540 rfl ?_
      refine gh_name (fun v3 hn => ?_)
      have h := h v3 hn
      refine gh_istore_n (L2 := [(3, 0, v3), (2, 0, v2 + 1), (0, 2, 63), (1, 0, v1)]) gd_Model_drawText_41 (by decide) rfl ?_
      refine gh_iload_n gd_Model_drawText_42 0 rfl ?_
      obtain ⟨J101, hJ101, h⟩ := h
      have hJ101 : ∀ (v1' : Int) (m : gh_M), gh_F m → J101 v1' m → gh_T E (gh_yModel_drawText.cls, prog_14_method_111_code, 4, false, 0) (d + 1) 101 [(0, 2, 63), (1, 0, v1'), (2, 0, v2 + 1)] [] m (fun r m1 => gh_F m1 ∧ Q r m1) := by
        intro v1' m hF hj
        have h := hJ101 v1' m hj
        refine gh_goto (tgt := 16) gd_Model_drawText_101 (by decide) ?_
        exact hK16 v1' (v2 + 1) m hF h
      obtain ⟨hA, hB⟩ := h
      refine gh_zge (tgt := 72) gd_Model_drawText_43 (by decide) (fun c4541 => ?_) (fun c4541 => ?_)
      · have h := hA c4541
        refine gh_aload_n gd_Model_drawText_46 2 rfl (by decide) ?_
        refine gh_iload_n gd_Model_drawText_47 3 rfl ?_
        refine gh_aload_n gd_Model_drawText_48 2 rfl (by decide) ?_
        refine gh_iconst gd_Model_drawText_49 (gh_r0 rfl) ?_
        refine gh_iload_n gd_Model_drawText_50 0 rfl ?_
        obtain ⟨q4542, h⟩ := h
        refine gh_isub gd_Model_drawText_51 q4542 ?_
        refine gh_aload_n gd_Model_drawText_52 2 rfl (by decide) ?_
        refine gh_aload_n gd_Model_drawText_53 2 rfl (by decide) ?_
        refine gh_iconst gd_Model_drawText_54 (gh_r0 rfl) ?_
        refine gh_iload_n gd_Model_drawText_55 0 rfl ?_
        obtain ⟨q4543, h⟩ := h
        refine gh_isub gd_Model_drawText_56 q4543 ?_
        refine cv_Model_usefulRulesOf (d := d) gd_Model_drawText_57 gh_k2043 hF (Nat.le_of_ble_eq_true rfl) (gh_C.pw (s_Model_usefulRulesOf d ((-1) - v3) hF h) (fun r4544 h => ?_))
        refine cv_Model_draw (d := d) gd_Model_drawText_60 gh_k2047 hF (Nat.le_of_ble_eq_true rfl) (gh_C.mono (s_Model_draw d r4544 hF h) (fun r4546 m4547 hq => ?_))
        obtain ⟨hF, h⟩ := hq
        refine cv_Model_usefulRuleOf (d := d) gd_Model_drawText_63 gh_k2052 hF (Nat.le_of_ble_eq_true rfl) (gh_C.pw (s_Model_usefulRuleOf d ((-1) - v3) r4546 hF h) (fun r4548 h => ?_))
        refine cv_Model_replaceBy (d := d) gd_Model_drawText_66 gh_k2056 hF (Nat.le_of_ble_eq_true rfl) (gh_C.mono (s_Model_replaceBy d v1 r4548 hF h) (fun r4550 m4551 hq => ?_))
        obtain ⟨hF, h⟩ := hq
        refine gh_goto (tgt := 101) gd_Model_drawText_69 (by decide) ?_
        refine gh_pick (L2 := [(0, 2, 63), (1, 0, v1), (2, 0, v2 + 1)]) [2, 3, 1] rfl ?_
        exact hJ101 v1 m4551 hF h
      · have h := hB c4541
        refine gh_aload_n gd_Model_drawText_72 2 rfl (by decide) ?_
        refine gf_63_81 gd_Model_drawText_73 gh_k1448 hF ?_
        refine gh_iload_n gd_Model_drawText_76 3 rfl ?_
        refine gh_iload_n gd_Model_drawText_77 0 rfl ?_
        refine gh_aload_n gd_Model_drawText_78 2 rfl (by decide) ?_
        refine gh_iload_n gd_Model_drawText_79 0 rfl ?_
        refine cv_Model_lettersIn (d := d) gd_Model_drawText_80 gh_k2060 (Nat.le_of_ble_eq_true rfl) (gh_C.pw (s_Model_lettersIn d v3 hF h) (fun r4552 h => ?_))
        refine cv_Model_draw (d := d) gd_Model_drawText_83 gh_k2047 hF (Nat.le_of_ble_eq_true rfl) (gh_C.mono (s_Model_draw d r4552 hF h) (fun r4554 m4555 hq => ?_))
        obtain ⟨hF, h⟩ := hq
        refine cv_Model_letterOf (d := d) gd_Model_drawText_86 gh_k2063 (Nat.le_of_ble_eq_true rfl) (gh_C.pw (s_Model_letterOf d v3 r4554 hF h) (fun r4556 h => ?_))
        obtain ⟨q4558, h⟩ := h
        obtain ⟨q4559, h⟩ := h
        refine sa_117 gd_Model_drawText_89 hF q4558 q4559 (fun hF => ?_)
        obtain ⟨q4560, h⟩ := h
        refine gh_iinc (L2 := [(1, 0, v1 + 1), (3, 0, v3), (2, 0, v2 + 1), (0, 2, 63)]) gd_Model_drawText_90 3 rfl q4560 (by decide) rfl ?_
        refine gh_iload_n gd_Model_drawText_93 0 rfl ?_
        refine gh_bipush gd_Model_drawText_94 (by decide) (gh_r0 rfl) ?_
        obtain ⟨hA, hB⟩ := h
        refine gh_jle (tgt := 101) gd_Model_drawText_96 (by decide) (fun c4561 => ?_) (fun c4561 => ?_)
        · have h := hA c4561
          refine gh_pick (L2 := [(0, 2, 63), (1, 0, v1 + 1), (2, 0, v2 + 1)]) [3, 0, 2] rfl ?_
          exact hJ101 (v1 + 1) (gh_u m4555 117 v1 r4556) hF h
        · have h := hB c4561
          refine gh_iconst gd_Model_drawText_99 (gh_r0 rfl) ?_
          exact gh_ret0 rfl gd_Model_drawText_100 ⟨hF, h⟩
  · have h := hB c4536
    refine gh_iload_n gd_Model_drawText_104 1 rfl ?_
    exact gh_ret0 rfl gd_Model_drawText_105 ⟨hF, h⟩
theorem s_Model_drawText {E : gh_E} {m : gh_M} {Q : Int → gh_M → Prop} (d : Nat) (hF : gh_F m) (h : w_Model_drawText m Q) : gh_C E gh_yModel_drawText prog_14_method_111_code 4 (some .int) 0 (d + 1) [(2, 63)] m (fun r m1 => gh_F m1 ∧ Q r m1) := by
  refine gh_enter2 (L := [(0, 2, 63)]) (by decide +kernel) gh_rt0 (Nat.le_of_ble_eq_true rfl) rfl rfl ?_
  unfold w_Model_drawText at h
  refine gh_aload_n gd_Model_drawText_0 0 rfl (by decide) ?_
  refine gf_63_81 gd_Model_drawText_1 gh_k1448 hF ?_
  refine gh_iconst gd_Model_drawText_4 (gh_r0 rfl) ?_
  refine gh_iconst gd_Model_drawText_5 (gh_r0 rfl) ?_
  refine sa_117 gd_Model_drawText_6 hF (by decide) (by decide) (fun hF => ?_)
  refine gh_aload_n gd_Model_drawText_7 0 rfl (by decide) ?_
  refine gh_iconst gd_Model_drawText_8 (gh_r0 rfl) ?_
  refine pf_63_82 gd_Model_drawText_9 gh_k1449 hF (fun hF => ?_)
  refine gh_iconst gd_Model_drawText_12 (gh_r0 rfl) ?_
  refine gh_istore_n (L2 := [(1, 0, 0), (0, 2, 63)]) gd_Model_drawText_13 (by decide) rfl ?_
  refine gh_iconst gd_Model_drawText_14 (gh_r0 rfl) ?_
  refine gh_istore_n (L2 := [(2, 0, 0), (1, 0, 0), (0, 2, 63)]) gd_Model_drawText_15 (by decide) rfl ?_
  refine gh_pick (L2 := [(0, 2, 63), (1, 0, 0), (2, 0, 0)]) [2, 1, 0] rfl ?_
  exact gh_M2_sound (T := fun v1 v2 m => gh_T E (gh_yModel_drawText.cls, prog_14_method_111_code, 4, false, 0) (d + 1) 16 [(0, 2, 63), (1, 0, v1), (2, 0, v2)] [] m (fun r m1 => gh_F m1 ∧ Q r m1)) (fun _ _ m => gh_F m) (fun K16 v1 v2 m hK hF h => b_Model_drawText_16 d hK v1 v2 m hF h) 0 0 (gh_u (gh_u m 117 0 (-1)) 63 82 1) hF h
def f_Model_made_66 (Q : Int → gh_M → Prop) (K66 : Int → gh_M → Prop) (v3 : Int) (m : gh_M) : Prop := ((v3 < (m 63 50) → 0 ≤ v3 ∧ v3 < 300 ∧ 0 ≤ v3 ∧ v3 < 8 ∧ gh_i (v3 + 1) ∧ K66 (v3 + 1) (gh_u m 96 v3 (m 117 v3))) ∧ (¬ (v3 < (m 63 50)) → w_Model_changed m (fun _ m4572 => Q (m4572 63 50) m4572)))
def w_Model_made (v1 : Int) (m : gh_M) (Q : Int → gh_M → Prop) : Prop := (((¬ (v1 < 0) ∧ (v1 ≤ 65535)) → (((m 63 24) = 0 → Q (-1003) m) ∧ (¬ ((m 63 24) = 0) → ∃ J51 : Int → gh_M → Prop, (∀ (y0 : Int) (m : gh_M), J51 y0 m → ((y0 = (-1) → Q (-1) m) ∧ (¬ (y0 = (-1)) → gh_M1 (fun K66 v3 m => f_Model_made_66 Q K66 v3 m) 0 (gh_u m 63 50 y0)))) ∧ (((m 82 0) < 1000000000 → w_Model_drawText (gh_u m 63 83 v1) (fun r4574 m4575 => J51 r4574 m4575)) ∧ (¬ ((m 82 0) < 1000000000) → J51 (-1) (gh_u m 63 83 v1)))))) ∧ (¬ ((¬ (v1 < 0) ∧ (v1 ≤ 65535))) → Q (-1002) m))
theorem b_Model_made_66 {E : gh_E} {Q : Int → gh_M → Prop} {K66 : Int → gh_M → Prop} (d : Nat) (hK : ∀ (v3 : Int) (m : gh_M), gh_F m → K66 v3 m → gh_T E (gh_yModel_made.cls, prog_14_method_112_code, 4, false, 0) (d + 2) 66 [(0, 2, 63), (3, 0, v3)] [] m (fun r m1 => gh_F m1 ∧ Q r m1)) (v3 : Int) (m : gh_M) (hF : gh_F m) (h : f_Model_made_66 Q K66 v3 m) : gh_T E (gh_yModel_made.cls, prog_14_method_112_code, 4, false, 0) (d + 2) 66 [(0, 2, 63), (3, 0, v3)] [] m (fun r m1 => gh_F m1 ∧ Q r m1) := by
  have hK66 := hK
  unfold f_Model_made_66 at h
  refine gh_iload_n gd_Model_made_66 1 rfl ?_
  refine gh_aload_n gd_Model_made_67 0 rfl (by decide) ?_
  refine gf_63_50 gd_Model_made_68 gh_k1417 hF rfl ?_
  obtain ⟨hA, hB⟩ := h
  refine gh_jge (tgt := 92) gd_Model_made_71 (by decide) (fun c4565 => ?_) (fun c4565 => ?_)
  · have h := hA c4565
    refine gh_aload_n gd_Model_made_74 0 rfl (by decide) ?_
    refine gf_63_51 gd_Model_made_75 gh_k1418 hF ?_
    refine gh_iload_n gd_Model_made_78 1 rfl ?_
    refine gh_aload_n gd_Model_made_79 0 rfl (by decide) ?_
    refine gf_63_81 gd_Model_made_80 gh_k1448 hF ?_
    refine gh_iload_n gd_Model_made_83 1 rfl ?_
    obtain ⟨q4566, h⟩ := h
    obtain ⟨q4567, h⟩ := h
    refine la_117 gd_Model_made_84 hF q4566 q4567 rfl ?_
    obtain ⟨q4568, h⟩ := h
    obtain ⟨q4569, h⟩ := h
    refine sa_96 gd_Model_made_85 hF q4568 q4569 (fun hF => ?_)
    obtain ⟨q4570, h⟩ := h
    refine gh_iinc (L2 := [(3, 0, v3 + 1), (0, 2, 63)]) gd_Model_made_86 1 rfl q4570 (by decide) rfl ?_
    refine gh_goto (tgt := 66) gd_Model_made_89 (by decide) ?_
    refine gh_pick (L2 := [(0, 2, 63), (3, 0, v3 + 1)]) [1, 0] rfl ?_
    exact hK66 (v3 + 1) (gh_u m 96 v3 (m 117 v3)) hF h
  · have h := hB c4565
    refine gh_aload_n gd_Model_made_92 0 rfl (by decide) ?_
    refine cv_Model_changed (d := d + 1) gd_Model_made_93 gh_k1801 hF (Nat.le_of_ble_eq_true rfl) (gh_C.mono (s_Model_changed (d + 1) hF h) (fun r4571 m4572 hq => ?_))
    obtain ⟨hF, h⟩ := hq
    refine gh_aload_n gd_Model_made_96 0 rfl (by decide) ?_
    refine gf_63_50 gd_Model_made_97 gh_k1417 hF rfl ?_
    exact gh_ret0 rfl gd_Model_made_100 ⟨hF, h⟩
theorem s_Model_made {E : gh_E} {m : gh_M} {Q : Int → gh_M → Prop} (d : Nat) (v1 : Int) (hF : gh_F m) (h : w_Model_made v1 m Q) : gh_C E gh_yModel_made prog_14_method_112_code 4 (some .int) 0 (d + 2) [(2, 63), (0, v1)] m (fun r m1 => gh_F m1 ∧ Q r m1) := by
  refine gh_enter2 (L := [(0, 2, 63), (1, 0, v1)]) (by decide +kernel) gh_rt0 (Nat.le_of_ble_eq_true rfl) rfl rfl ?_
  unfold w_Model_made at h
  refine gh_iload_n gd_Model_made_0 1 rfl ?_
  refine gh_iconst gd_Model_made_1 (gh_r0 rfl) ?_
  refine gh_ldcw (n := 65535) gd_Model_made_2 gh_k2038 (by decide) (gh_r0 rfl) ?_
  refine cv_Model_in (d := d + 1) gd_Model_made_5 gh_k1628 (Nat.le_of_ble_eq_true rfl) (gh_C.pe (e_Model_in (d + 1) v1 0 65535) ?_)
  obtain ⟨hA, hB⟩ := h
  refine gh_bne (tgt := 15) gd_Model_made_8 (by decide) (fun c4562 => ?_) (fun c4562 => ?_)
  · have h := hA c4562
    refine gh_aload_n gd_Model_made_15 0 rfl (by decide) ?_
    refine gf_63_24 gd_Model_made_16 gh_k1391 hF rfl ?_
    obtain ⟨hA, hB⟩ := h
    refine gh_zne (tgt := 26) gd_Model_made_19 (by decide) (fun c4563 => ?_) (fun c4563 => ?_)
    · have h := hA c4563
      refine gh_sipush gd_Model_made_22 (by decide) (gh_r0 rfl) ?_
      exact gh_ret0 rfl gd_Model_made_25 ⟨hF, h⟩
    · have h := hB c4563
      refine gh_aload_n gd_Model_made_26 0 rfl (by decide) ?_
      refine gh_iload_n gd_Model_made_27 1 rfl ?_
      refine pf_63_83 gd_Model_made_28 gh_k1450 hF (fun hF => ?_)
      refine gh_aload_n gd_Model_made_31 0 rfl (by decide) ?_
      refine gf_63_35 gd_Model_made_32 gh_k1402 hF ?_
      refine gh_iconst gd_Model_made_35 (gh_r0 rfl) ?_
      refine la_82 gd_Model_made_36 hF (by decide) (by decide) (gh_u_a (by decide)) ?_
      refine gh_ldcw (n := 1000000000) gd_Model_made_37 gh_k1741 (by decide) (gh_r0 rfl) ?_
      obtain ⟨J51, hJ51, h⟩ := h
      have hJ51 : ∀ (y0 : Int) (m : gh_M), gh_F m → J51 y0 m → gh_T E (gh_yModel_made.cls, prog_14_method_112_code, 4, false, 0) (d + 2) 51 [(0, 2, 63)] [(0, y0)] m (fun r m1 => gh_F m1 ∧ Q r m1) := by
        intro y0 m hF hj
        have h := hJ51 y0 m hj
        refine gh_istore_n (L2 := [(2, 0, y0), (0, 2, 63)]) gd_Model_made_51 (by decide) rfl ?_
        refine gh_iload_n gd_Model_made_52 0 rfl ?_
        refine gh_iconst gd_Model_made_53 (gh_r0 rfl) ?_
        obtain ⟨hA, hB⟩ := h
        refine gh_jne (tgt := 59) gd_Model_made_54 (by decide) (fun c4564 => ?_) (fun c4564 => ?_)
        · have h := hA c4564
          refine gh_iconst gd_Model_made_57 (gh_r0 rfl) ?_
          exact gh_ret0 rfl gd_Model_made_58 ⟨hF, h⟩
        · have h := hB c4564
          refine gh_aload_n gd_Model_made_59 1 rfl (by decide) ?_
          refine gh_iload_n gd_Model_made_60 0 rfl ?_
          refine pf_63_50 gd_Model_made_61 gh_k1417 hF (fun hF => ?_)
          refine gh_iconst gd_Model_made_64 (gh_r0 rfl) ?_
          refine gh_istore_n (L2 := [(3, 0, 0), (2, 0, y0), (0, 2, 63)]) gd_Model_made_65 (by decide) rfl ?_
          refine gh_pick (L2 := [(0, 2, 63), (3, 0, 0)]) [2, 0] rfl ?_
          exact gh_M1_sound (T := fun v3 m => gh_T E (gh_yModel_made.cls, prog_14_method_112_code, 4, false, 0) (d + 2) 66 [(0, 2, 63), (3, 0, v3)] [] m (fun r m1 => gh_F m1 ∧ Q r m1)) (fun _ m => gh_F m) (fun K66 v3 m hK hF h => b_Model_made_66 d hK v3 m hF h) 0 (gh_u m 63 50 y0) hF h
      obtain ⟨hA, hB⟩ := h
      refine gh_jge (tgt := 50) gd_Model_made_40 (by decide) (fun c4573 => ?_) (fun c4573 => ?_)
      · have h := hA c4573
        refine gh_aload_n gd_Model_made_43 0 rfl (by decide) ?_
        refine cv_Model_drawText (d := d + 1) gd_Model_made_44 gh_k2039 hF (Nat.le_of_ble_eq_true rfl) (gh_C.mono (s_Model_drawText d hF h) (fun r4574 m4575 hq => ?_))
        obtain ⟨hF, h⟩ := hq
        refine gh_goto (tgt := 51) gd_Model_made_47 (by decide) ?_
        refine gh_pick (L2 := [(0, 2, 63)]) [0] rfl ?_
        exact hJ51 r4574 m4575 hF h
      · have h := hB c4573
        refine gh_iconst gd_Model_made_50 (gh_r0 rfl) ?_
        refine gh_pick (L2 := [(0, 2, 63)]) [0] rfl ?_
        exact hJ51 (-1) (gh_u m 63 83 v1) hF h
  · have h := hB c4562
    refine gh_sipush gd_Model_made_11 (by decide) (gh_r0 rfl) ?_
    exact gh_ret0 rfl gd_Model_made_14 ⟨hF, h⟩
def f_Model_hashNames_17 (v5 : Int) (K5 : Int → Int → Prop) (m : gh_M) (K17 : Int → Int → Prop) (v3 : Int) (v6 : Int) : Prop := ((v6 < 8 → w_Model_name v5 v6 m (fun r4578 => ∀ v3' : Int, v3' = x_Model_hash v3 r4578 → gh_i (v6 + 1) ∧ K17 v3' (v6 + 1))) ∧ (¬ (v6 < 8) → 0 ≤ v5 ∧ v5 < 8 ∧ 0 ≤ v5 ∧ v5 < 8 ∧ ∀ v3' : Int, v3' = x_Model_hash (x_Model_hash v3 (m 86 v5)) (m 87 v5) → gh_i (v5 + 1) ∧ K5 v3' (v5 + 1)))
def f_Model_hashNames_5 (Q : Int → Prop) (m : gh_M) (K5 : Int → Int → Prop) (v3 : Int) (v5 : Int) : Prop := ((v5 < (m 63 26) → gh_L2 (fun K17 v3 v6 => f_Model_hashNames_17 v5 K5 m K17 v3 v6) v3 0) ∧ (¬ (v5 < (m 63 26)) → Q v3))
def w_Model_hashNames (v1 : Int) (m : gh_M) (Q : Int → Prop) : Prop := gh_L2 (fun K5 v3 v5 => f_Model_hashNames_5 Q m K5 v3 v5) v1 0
theorem b_Model_hashNames_17 {E : gh_E} {v5 : Int} {K5 : Int → Int → Prop} {Q : Int → Prop} {K17 : Int → Int → Prop} (d : Nat) {m : gh_M} (hK5 : ∀ (v3 : Int) (v5 : Int), gh_F m → K5 v3 v5 → gh_T E (gh_yModel_hashNames.cls, prog_14_method_114_code, 7, false, 1) (d + 3) 5 [(0, 2, 63), (3, 1, v3), (5, 0, v5)] [] m (fun r m1 => m1 = m ∧ Q r)) (hK : ∀ (v3 : Int) (v6 : Int), gh_F m → K17 v3 v6 → gh_T E (gh_yModel_hashNames.cls, prog_14_method_114_code, 7, false, 1) (d + 3) 17 [(0, 2, 63), (3, 1, v3), (5, 0, v5), (6, 0, v6)] [] m (fun r m1 => m1 = m ∧ Q r)) (v3 : Int) (v6 : Int) (hF : gh_F m) (h : f_Model_hashNames_17 v5 K5 m K17 v3 v6) : gh_T E (gh_yModel_hashNames.cls, prog_14_method_114_code, 7, false, 1) (d + 3) 17 [(0, 2, 63), (3, 1, v3), (5, 0, v5), (6, 0, v6)] [] m (fun r m1 => m1 = m ∧ Q r) := by
  have hK17 := hK
  unfold f_Model_hashNames_17 at h
  refine gh_iload gd_Model_hashNames_17 3 rfl ?_
  refine gh_bipush gd_Model_hashNames_19 (by decide) (gh_r0 rfl) ?_
  obtain ⟨hA, hB⟩ := h
  refine gh_jge (tgt := 44) gd_Model_hashNames_21 (by decide) (fun c4577 => ?_) (fun c4577 => ?_)
  · have h := hA c4577
    refine gh_lload_n gd_Model_hashNames_24 1 rfl ?_
    refine gh_aload_n gd_Model_hashNames_25 0 rfl (by decide) ?_
    refine gh_iload gd_Model_hashNames_26 2 rfl ?_
    refine gh_iload gd_Model_hashNames_28 3 rfl ?_
    refine cv_Model_name (d := d + 2) gd_Model_hashNames_30 gh_k2080 hF (Nat.le_of_ble_eq_true rfl) (gh_C.pw (s_Model_name d v5 v6 hF h) (fun r4578 h => ?_))
    refine gh_i2l gd_Model_hashNames_33 ?_
    refine cv_Model_hash (d := d + 2) gd_Model_hashNames_34 gh_k2071 (Nat.le_of_ble_eq_true rfl) (gh_C.pe (e_Model_hash (d + 2) v3 r4578) ?_)
    refine gh_name (fun v3' hn => ?_)
    have h := h v3' hn
    refine gh_lstore_n (L2 := [(3, 1, v3'), (0, 2, 63), (5, 0, v5), (6, 0, v6)]) gd_Model_hashNames_37 (by decide) rfl ?_
    obtain ⟨q4580, h⟩ := h
    refine gh_iinc (L2 := [(6, 0, v6 + 1), (3, 1, v3'), (0, 2, 63), (5, 0, v5)]) gd_Model_hashNames_38 3 rfl q4580 (by decide) rfl ?_
    refine gh_goto (tgt := 17) gd_Model_hashNames_41 (by decide) ?_
    refine gh_pick (L2 := [(0, 2, 63), (3, 1, v3'), (5, 0, v5), (6, 0, v6 + 1)]) [2, 1, 3, 0] rfl ?_
    exact hK17 v3' (v6 + 1) hF h
  · have h := hB c4577
    refine gh_lload_n gd_Model_hashNames_44 1 rfl ?_
    refine gh_aload_n gd_Model_hashNames_45 0 rfl (by decide) ?_
    refine gf_63_39 gd_Model_hashNames_46 gh_k1406 hF ?_
    refine gh_iload gd_Model_hashNames_49 2 rfl ?_
    obtain ⟨q4581, h⟩ := h
    obtain ⟨q4582, h⟩ := h
    refine la_86 gd_Model_hashNames_51 hF q4581 q4582 rfl ?_
    refine gh_i2l gd_Model_hashNames_52 ?_
    refine cv_Model_hash (d := d + 2) gd_Model_hashNames_53 gh_k2071 (Nat.le_of_ble_eq_true rfl) (gh_C.pe (e_Model_hash (d + 2) v3 (m 86 v5)) ?_)
    refine gh_aload_n gd_Model_hashNames_56 0 rfl (by decide) ?_
    refine gf_63_40 gd_Model_hashNames_57 gh_k1407 hF ?_
    refine gh_iload gd_Model_hashNames_60 2 rfl ?_
    obtain ⟨q4583, h⟩ := h
    obtain ⟨q4584, h⟩ := h
    refine la_87 gd_Model_hashNames_62 hF q4583 q4584 rfl ?_
    refine gh_i2l gd_Model_hashNames_63 ?_
    refine cv_Model_hash (d := d + 2) gd_Model_hashNames_64 gh_k2071 (Nat.le_of_ble_eq_true rfl) (gh_C.pe (e_Model_hash (d + 2) (x_Model_hash v3 (m 86 v5)) (m 87 v5)) ?_)
    refine gh_name (fun v3' hn => ?_)
    have h := h v3' hn
    refine gh_lstore_n (L2 := [(3, 1, v3'), (0, 2, 63), (5, 0, v5), (6, 0, v6)]) gd_Model_hashNames_67 (by decide) rfl ?_
    obtain ⟨q4585, h⟩ := h
    refine gh_iinc (L2 := [(5, 0, v5 + 1), (3, 1, v3'), (0, 2, 63), (6, 0, v6)]) gd_Model_hashNames_68 2 rfl q4585 (by decide) rfl ?_
    refine gh_goto (tgt := 5) gd_Model_hashNames_71 (by decide) ?_
    refine gh_pick (L2 := [(0, 2, 63), (3, 1, v3'), (5, 0, v5 + 1)]) [2, 1, 0] rfl ?_
    exact hK5 v3' (v5 + 1) hF h
theorem b_Model_hashNames_5 {E : gh_E} {Q : Int → Prop} {K5 : Int → Int → Prop} (d : Nat) {m : gh_M} (hK : ∀ (v3 : Int) (v5 : Int), gh_F m → K5 v3 v5 → gh_T E (gh_yModel_hashNames.cls, prog_14_method_114_code, 7, false, 1) (d + 3) 5 [(0, 2, 63), (3, 1, v3), (5, 0, v5)] [] m (fun r m1 => m1 = m ∧ Q r)) (v3 : Int) (v5 : Int) (hF : gh_F m) (h : f_Model_hashNames_5 Q m K5 v3 v5) : gh_T E (gh_yModel_hashNames.cls, prog_14_method_114_code, 7, false, 1) (d + 3) 5 [(0, 2, 63), (3, 1, v3), (5, 0, v5)] [] m (fun r m1 => m1 = m ∧ Q r) := by
  have hK5 := hK
  unfold f_Model_hashNames_5 at h
  refine gh_iload gd_Model_hashNames_5 2 rfl ?_
  refine gh_aload_n gd_Model_hashNames_7 0 rfl (by decide) ?_
  refine gf_63_26 gd_Model_hashNames_8 gh_k1393 hF rfl ?_
  obtain ⟨hA, hB⟩ := h
  refine gh_jge (tgt := 74) gd_Model_hashNames_11 (by decide) (fun c4576 => ?_) (fun c4576 => ?_)
  · have h := hA c4576
    refine gh_iconst gd_Model_hashNames_14 (gh_r0 rfl) ?_
    refine gh_istore (L2 := [(6, 0, 0), (0, 2, 63), (3, 1, v3), (5, 0, v5)]) gd_Model_hashNames_15 (by decide) rfl ?_
    refine gh_pick (L2 := [(0, 2, 63), (3, 1, v3), (5, 0, v5), (6, 0, 0)]) [1, 2, 3, 0] rfl ?_
    exact gh_L2_sound (T := fun v3 v6 => gh_T E (gh_yModel_hashNames.cls, prog_14_method_114_code, 7, false, 1) (d + 3) 17 [(0, 2, 63), (3, 1, v3), (5, 0, v5), (6, 0, v6)] [] m (fun r m1 => m1 = m ∧ Q r)) (fun _ _ => gh_F m) (fun K17 v3 v6 hK hF h => b_Model_hashNames_17 d hK5 hK v3 v6 hF h) v3 0 hF h
  · have h := hB c4576
    refine gh_lload_n gd_Model_hashNames_74 1 rfl ?_
    exact gh_ret1 rfl gd_Model_hashNames_75 ⟨rfl, h⟩
theorem s_Model_hashNames {E : gh_E} {m : gh_M} {Q : Int → Prop} (d : Nat) (v1 : Int) (hF : gh_F m) (h : w_Model_hashNames v1 m Q) : gh_C E gh_yModel_hashNames prog_14_method_114_code 7 (some .long) 1 (d + 3) [(2, 63), (1, v1)] m (fun r m1 => m1 = m ∧ Q r) := by
  refine gh_enter2 (L := [(0, 2, 63), (1, 1, v1)]) (by decide +kernel) gh_rt1 (Nat.le_of_ble_eq_true rfl) rfl rfl ?_
  unfold w_Model_hashNames at h
  refine gh_lload_n gd_Model_hashNames_0 1 rfl ?_
  refine gh_lstore_n (L2 := [(3, 1, v1), (0, 2, 63), (1, 1, v1)]) gd_Model_hashNames_1 (by decide) rfl ?_
  refine gh_iconst gd_Model_hashNames_2 (gh_r0 rfl) ?_
  refine gh_istore (L2 := [(5, 0, 0), (3, 1, v1), (0, 2, 63), (1, 1, v1)]) gd_Model_hashNames_3 (by decide) rfl ?_
  refine gh_pick (L2 := [(0, 2, 63), (3, 1, v1), (5, 0, 0)]) [2, 1, 0] rfl ?_
  exact gh_L2_sound (T := fun v3 v5 => gh_T E (gh_yModel_hashNames.cls, prog_14_method_114_code, 7, false, 1) (d + 3) 5 [(0, 2, 63), (3, 1, v3), (5, 0, v5)] [] m (fun r m1 => m1 = m ∧ Q r)) (fun _ _ => gh_F m) (fun K5 v3 v5 hK hF h => b_Model_hashNames_5 d hK v3 v5 hF h) v1 0 hF h
def f_Model_digest_143 (Q : Int → gh_M → Prop) (m : gh_M) (K143 : Int → Int → Prop) (v1 : Int) (v3 : Int) : Prop := ((v3 < (m 63 68) → 0 ≤ v3 ∧ v3 < 300 ∧ ∀ v1' : Int, v1' = x_Model_hash v1 (m 109 v3) → gh_i (v3 + 1) ∧ K143 v1' (v3 + 1)) ∧ (¬ (v3 < (m 63 68)) → w_Model_proper 0 m (fun r4609 => w_Model_proper 1 m (fun r4611 => w_Model_proper 2 m (fun r4613 => Q (x_Model_hash (x_Model_hash (x_Model_hash v1 r4609) r4611) r4613) m)))))
def f_Model_digest_98 (Q : Int → gh_M → Prop) (K98 : Int → Int → gh_M → Prop) (v1 : Int) (v3 : Int) (m : gh_M) : Prop := ((v3 ≤ (m 63 50) → w_Model_next2 v3 m (fun r4598 m4599 => w_Model_items v3 m4599 (fun r4600 m4601 => w_Model_end v3 m4601 (fun r4602 m4603 => ∀ v1' : Int, v1' = x_Model_hash (x_Model_hash (x_Model_hash v1 r4598) r4600) r4602 → gh_i (v3 + 1) ∧ K98 v1' (v3 + 1) m4603)))) ∧ (¬ (v3 ≤ (m 63 50)) → gh_L2 (fun K143 v1 v3 => f_Model_digest_143 Q m K143 v1 v3) v1 0))
def f_Model_digest_70 (Q : Int → gh_M → Prop) (m : gh_M) (K70 : Int → Int → Prop) (v1 : Int) (v3 : Int) : Prop := ((v3 < (m 63 50) → 0 ≤ v3 ∧ v3 < 8 ∧ ∀ v1' : Int, v1' = x_Model_hash v1 (m 96 v3) → gh_i (v3 + 1) ∧ K70 v1' (v3 + 1)) ∧ (¬ (v3 < (m 63 50)) → gh_M2 (fun K98 v1 v3 m => f_Model_digest_98 Q K98 v1 v3 m) v1 0 m))
def f_Model_digest_39 (Q : Int → gh_M → Prop) (m : gh_M) (K39 : Int → Int → Prop) (v1 : Int) (v3 : Int) : Prop := ((v3 < 7 → w_Model_sum v3 m (fun r4588 => ∀ v1' : Int, v1' = x_Model_hash v1 r4588 → gh_i (v3 + 1) ∧ K39 v1' (v3 + 1))) ∧ (¬ (v3 < 7) → w_Model_hashNames v1 m (fun r4591 => gh_L2 (fun K70 v1 v3 => f_Model_digest_70 Q m K70 v1 v3) r4591 0)))
def w_Model_digest (m : gh_M) (Q : Int → gh_M → Prop) : Prop := ∀ v1 : Int, v1 = x_Model_hash (x_Model_hash (x_Model_hash 17 (m 63 1)) (m 63 2)) (m 63 3) → (((m 63 24) = 0 → Q v1 m) ∧ (¬ ((m 63 24) = 0) → gh_L2 (fun K39 v1 v3 => f_Model_digest_39 Q m K39 v1 v3) v1 0))
theorem b_Model_digest_143 {E : gh_E} {Q : Int → gh_M → Prop} {K143 : Int → Int → Prop} (d : Nat) {m : gh_M} (hK : ∀ (v1 : Int) (v3 : Int), gh_F m → K143 v1 v3 → gh_T E (gh_yModel_digest.cls, prog_14_method_115_code, 4, false, 1) (d + 4) 143 [(0, 2, 63), (1, 1, v1), (3, 0, v3)] [] m (fun r m1 => gh_F m1 ∧ Q r m1)) (v1 : Int) (v3 : Int) (hF : gh_F m) (h : f_Model_digest_143 Q m K143 v1 v3) : gh_T E (gh_yModel_digest.cls, prog_14_method_115_code, 4, false, 1) (d + 4) 143 [(0, 2, 63), (1, 1, v1), (3, 0, v3)] [] m (fun r m1 => gh_F m1 ∧ Q r m1) := by
  have hK143 := hK
  unfold f_Model_digest_143 at h
  refine gh_iload_n gd_Model_digest_143 2 rfl ?_
  refine gh_aload_n gd_Model_digest_144 0 rfl (by decide) ?_
  refine gf_63_68 gd_Model_digest_145 gh_k1435 hF rfl ?_
  obtain ⟨hA, hB⟩ := h
  refine gh_jge (tgt := 169) gd_Model_digest_148 (by decide) (fun c4605 => ?_) (fun c4605 => ?_)
  · have h := hA c4605
    refine gh_lload_n gd_Model_digest_151 1 rfl ?_
    refine gh_aload_n gd_Model_digest_152 0 rfl (by decide) ?_
    refine gf_63_69 gd_Model_digest_153 gh_k1436 hF ?_
    refine gh_iload_n gd_Model_digest_156 2 rfl ?_
    obtain ⟨q4606, h⟩ := h
    obtain ⟨q4607, h⟩ := h
    refine la_109 gd_Model_digest_157 hF q4606 q4607 rfl ?_
    refine gh_i2l gd_Model_digest_158 ?_
    refine cv_Model_hash (d := d + 3) gd_Model_digest_159 gh_k2071 (Nat.le_of_ble_eq_true rfl) (gh_C.pe (e_Model_hash (d + 3) v1 (m 109 v3)) ?_)
    refine gh_name (fun v1' hn => ?_)
    have h := h v1' hn
    refine gh_lstore_n (L2 := [(1, 1, v1'), (0, 2, 63), (3, 0, v3)]) gd_Model_digest_162 (by decide) rfl ?_
    obtain ⟨q4608, h⟩ := h
    refine gh_iinc (L2 := [(3, 0, v3 + 1), (1, 1, v1'), (0, 2, 63)]) gd_Model_digest_163 2 rfl q4608 (by decide) rfl ?_
    refine gh_goto (tgt := 143) gd_Model_digest_166 (by decide) ?_
    refine gh_pick (L2 := [(0, 2, 63), (1, 1, v1'), (3, 0, v3 + 1)]) [2, 1, 0] rfl ?_
    exact hK143 v1' (v3 + 1) hF h
  · have h := hB c4605
    refine gh_lload_n gd_Model_digest_169 1 rfl ?_
    refine gh_aload_n gd_Model_digest_170 0 rfl (by decide) ?_
    refine gh_iconst gd_Model_digest_171 (gh_r0 rfl) ?_
    refine cv_Model_proper (d := d + 3) gd_Model_digest_172 gh_k2084 hF (Nat.le_of_ble_eq_true rfl) (gh_C.pw (s_Model_proper (d + 2) 0 hF h) (fun r4609 h => ?_))
    refine gh_i2l gd_Model_digest_175 ?_
    refine cv_Model_hash (d := d + 3) gd_Model_digest_176 gh_k2071 (Nat.le_of_ble_eq_true rfl) (gh_C.pe (e_Model_hash (d + 3) v1 r4609) ?_)
    refine gh_aload_n gd_Model_digest_179 0 rfl (by decide) ?_
    refine gh_iconst gd_Model_digest_180 (gh_r0 rfl) ?_
    refine cv_Model_proper (d := d + 3) gd_Model_digest_181 gh_k2084 hF (Nat.le_of_ble_eq_true rfl) (gh_C.pw (s_Model_proper (d + 2) 1 hF h) (fun r4611 h => ?_))
    refine gh_i2l gd_Model_digest_184 ?_
    refine cv_Model_hash (d := d + 3) gd_Model_digest_185 gh_k2071 (Nat.le_of_ble_eq_true rfl) (gh_C.pe (e_Model_hash (d + 3) (x_Model_hash v1 r4609) r4611) ?_)
    refine gh_aload_n gd_Model_digest_188 0 rfl (by decide) ?_
    refine gh_iconst gd_Model_digest_189 (gh_r0 rfl) ?_
    refine cv_Model_proper (d := d + 3) gd_Model_digest_190 gh_k2084 hF (Nat.le_of_ble_eq_true rfl) (gh_C.pw (s_Model_proper (d + 2) 2 hF h) (fun r4613 h => ?_))
    refine gh_i2l gd_Model_digest_193 ?_
    refine cv_Model_hash (d := d + 3) gd_Model_digest_194 gh_k2071 (Nat.le_of_ble_eq_true rfl) (gh_C.pe (e_Model_hash (d + 3) (x_Model_hash (x_Model_hash v1 r4609) r4611) r4613) ?_)
    exact gh_ret1 rfl gd_Model_digest_197 ⟨hF, h⟩
theorem b_Model_digest_98 {E : gh_E} {Q : Int → gh_M → Prop} {K98 : Int → Int → gh_M → Prop} (d : Nat) (hK : ∀ (v1 : Int) (v3 : Int) (m : gh_M), gh_F m → K98 v1 v3 m → gh_T E (gh_yModel_digest.cls, prog_14_method_115_code, 4, false, 1) (d + 4) 98 [(0, 2, 63), (1, 1, v1), (3, 0, v3)] [] m (fun r m1 => gh_F m1 ∧ Q r m1)) (v1 : Int) (v3 : Int) (m : gh_M) (hF : gh_F m) (h : f_Model_digest_98 Q K98 v1 v3 m) : gh_T E (gh_yModel_digest.cls, prog_14_method_115_code, 4, false, 1) (d + 4) 98 [(0, 2, 63), (1, 1, v1), (3, 0, v3)] [] m (fun r m1 => gh_F m1 ∧ Q r m1) := by
  have hK98 := hK
  unfold f_Model_digest_98 at h
  refine gh_iload_n gd_Model_digest_98 2 rfl ?_
  refine gh_aload_n gd_Model_digest_99 0 rfl (by decide) ?_
  refine gf_63_50 gd_Model_digest_100 gh_k1417 hF rfl ?_
  obtain ⟨hA, hB⟩ := h
  refine gh_jgt (tgt := 141) gd_Model_digest_103 (by decide) (fun c4597 => ?_) (fun c4597 => ?_)
  · have h := hA c4597
    refine gh_lload_n gd_Model_digest_106 1 rfl ?_
    refine gh_aload_n gd_Model_digest_107 0 rfl (by decide) ?_
    refine gh_iload_n gd_Model_digest_108 2 rfl ?_
    refine cv_Model_next2 (d := d + 3) gd_Model_digest_109 gh_k2081 hF (Nat.le_of_ble_eq_true rfl) (gh_C.mono (s_Model_next2 d v3 hF h) (fun r4598 m4599 hq => ?_))
    obtain ⟨hF, h⟩ := hq
    refine gh_i2l gd_Model_digest_112 ?_
    refine cv_Model_hash (d := d + 3) gd_Model_digest_113 gh_k2071 (Nat.le_of_ble_eq_true rfl) (gh_C.pe (e_Model_hash (d + 3) v1 r4598) ?_)
    refine gh_aload_n gd_Model_digest_116 0 rfl (by decide) ?_
    refine gh_iload_n gd_Model_digest_117 2 rfl ?_
    refine cv_Model_items (d := d + 3) gd_Model_digest_118 gh_k2082 hF (Nat.le_of_ble_eq_true rfl) (gh_C.mono (s_Model_items d v3 hF h) (fun r4600 m4601 hq => ?_))
    obtain ⟨hF, h⟩ := hq
    refine gh_i2l gd_Model_digest_121 ?_
    refine cv_Model_hash (d := d + 3) gd_Model_digest_122 gh_k2071 (Nat.le_of_ble_eq_true rfl) (gh_C.pe (e_Model_hash (d + 3) (x_Model_hash v1 r4598) r4600) ?_)
    refine gh_aload_n gd_Model_digest_125 0 rfl (by decide) ?_
    refine gh_iload_n gd_Model_digest_126 2 rfl ?_
    refine cv_Model_end (d := d + 3) gd_Model_digest_127 gh_k2083 hF (Nat.le_of_ble_eq_true rfl) (gh_C.mono (s_Model_end d v3 hF h) (fun r4602 m4603 hq => ?_))
    obtain ⟨hF, h⟩ := hq
    refine gh_i2l gd_Model_digest_130 ?_
    refine cv_Model_hash (d := d + 3) gd_Model_digest_131 gh_k2071 (Nat.le_of_ble_eq_true rfl) (gh_C.pe (e_Model_hash (d + 3) (x_Model_hash (x_Model_hash v1 r4598) r4600) r4602) ?_)
    refine gh_name (fun v1' hn => ?_)
    have h := h v1' hn
    refine gh_lstore_n (L2 := [(1, 1, v1'), (0, 2, 63), (3, 0, v3)]) gd_Model_digest_134 (by decide) rfl ?_
    obtain ⟨q4604, h⟩ := h
    refine gh_iinc (L2 := [(3, 0, v3 + 1), (1, 1, v1'), (0, 2, 63)]) gd_Model_digest_135 2 rfl q4604 (by decide) rfl ?_
    refine gh_goto (tgt := 98) gd_Model_digest_138 (by decide) ?_
    refine gh_pick (L2 := [(0, 2, 63), (1, 1, v1'), (3, 0, v3 + 1)]) [2, 1, 0] rfl ?_
    exact hK98 v1' (v3 + 1) m4603 hF h
  · have h := hB c4597
    refine gh_iconst gd_Model_digest_141 (gh_r0 rfl) ?_
    refine gh_istore_n (L2 := [(3, 0, 0), (0, 2, 63), (1, 1, v1)]) gd_Model_digest_142 (by decide) rfl ?_
    refine gh_pick (L2 := [(0, 2, 63), (1, 1, v1), (3, 0, 0)]) [1, 2, 0] rfl ?_
    exact gh_L2_sound (T := fun v1 v3 => gh_T E (gh_yModel_digest.cls, prog_14_method_115_code, 4, false, 1) (d + 4) 143 [(0, 2, 63), (1, 1, v1), (3, 0, v3)] [] m (fun r m1 => gh_F m1 ∧ Q r m1)) (fun _ _ => gh_F m) (fun K143 v1 v3 hK hF h => b_Model_digest_143 d hK v1 v3 hF h) v1 0 hF h
theorem b_Model_digest_70 {E : gh_E} {Q : Int → gh_M → Prop} {K70 : Int → Int → Prop} (d : Nat) {m : gh_M} (hK : ∀ (v1 : Int) (v3 : Int), gh_F m → K70 v1 v3 → gh_T E (gh_yModel_digest.cls, prog_14_method_115_code, 4, false, 1) (d + 4) 70 [(0, 2, 63), (1, 1, v1), (3, 0, v3)] [] m (fun r m1 => gh_F m1 ∧ Q r m1)) (v1 : Int) (v3 : Int) (hF : gh_F m) (h : f_Model_digest_70 Q m K70 v1 v3) : gh_T E (gh_yModel_digest.cls, prog_14_method_115_code, 4, false, 1) (d + 4) 70 [(0, 2, 63), (1, 1, v1), (3, 0, v3)] [] m (fun r m1 => gh_F m1 ∧ Q r m1) := by
  have hK70 := hK
  unfold f_Model_digest_70 at h
  refine gh_iload_n gd_Model_digest_70 2 rfl ?_
  refine gh_aload_n gd_Model_digest_71 0 rfl (by decide) ?_
  refine gf_63_50 gd_Model_digest_72 gh_k1417 hF rfl ?_
  obtain ⟨hA, hB⟩ := h
  refine gh_jge (tgt := 96) gd_Model_digest_75 (by decide) (fun c4593 => ?_) (fun c4593 => ?_)
  · have h := hA c4593
    refine gh_lload_n gd_Model_digest_78 1 rfl ?_
    refine gh_aload_n gd_Model_digest_79 0 rfl (by decide) ?_
    refine gf_63_51 gd_Model_digest_80 gh_k1418 hF ?_
    refine gh_iload_n gd_Model_digest_83 2 rfl ?_
    obtain ⟨q4594, h⟩ := h
    obtain ⟨q4595, h⟩ := h
    refine la_96 gd_Model_digest_84 hF q4594 q4595 rfl ?_
    refine gh_i2l gd_Model_digest_85 ?_
    refine cv_Model_hash (d := d + 3) gd_Model_digest_86 gh_k2071 (Nat.le_of_ble_eq_true rfl) (gh_C.pe (e_Model_hash (d + 3) v1 (m 96 v3)) ?_)
    refine gh_name (fun v1' hn => ?_)
    have h := h v1' hn
    refine gh_lstore_n (L2 := [(1, 1, v1'), (0, 2, 63), (3, 0, v3)]) gd_Model_digest_89 (by decide) rfl ?_
    obtain ⟨q4596, h⟩ := h
    refine gh_iinc (L2 := [(3, 0, v3 + 1), (1, 1, v1'), (0, 2, 63)]) gd_Model_digest_90 2 rfl q4596 (by decide) rfl ?_
    refine gh_goto (tgt := 70) gd_Model_digest_93 (by decide) ?_
    refine gh_pick (L2 := [(0, 2, 63), (1, 1, v1'), (3, 0, v3 + 1)]) [2, 1, 0] rfl ?_
    exact hK70 v1' (v3 + 1) hF h
  · have h := hB c4593
    refine gh_iconst gd_Model_digest_96 (gh_r0 rfl) ?_
    refine gh_istore_n (L2 := [(3, 0, 0), (0, 2, 63), (1, 1, v1)]) gd_Model_digest_97 (by decide) rfl ?_
    refine gh_pick (L2 := [(0, 2, 63), (1, 1, v1), (3, 0, 0)]) [1, 2, 0] rfl ?_
    exact gh_M2_sound (T := fun v1 v3 m => gh_T E (gh_yModel_digest.cls, prog_14_method_115_code, 4, false, 1) (d + 4) 98 [(0, 2, 63), (1, 1, v1), (3, 0, v3)] [] m (fun r m1 => gh_F m1 ∧ Q r m1)) (fun _ _ m => gh_F m) (fun K98 v1 v3 m hK hF h => b_Model_digest_98 d hK v1 v3 m hF h) v1 0 m hF h
theorem b_Model_digest_39 {E : gh_E} {Q : Int → gh_M → Prop} {K39 : Int → Int → Prop} (d : Nat) {m : gh_M} (hK : ∀ (v1 : Int) (v3 : Int), gh_F m → K39 v1 v3 → gh_T E (gh_yModel_digest.cls, prog_14_method_115_code, 4, false, 1) (d + 4) 39 [(0, 2, 63), (1, 1, v1), (3, 0, v3)] [] m (fun r m1 => gh_F m1 ∧ Q r m1)) (v1 : Int) (v3 : Int) (hF : gh_F m) (h : f_Model_digest_39 Q m K39 v1 v3) : gh_T E (gh_yModel_digest.cls, prog_14_method_115_code, 4, false, 1) (d + 4) 39 [(0, 2, 63), (1, 1, v1), (3, 0, v3)] [] m (fun r m1 => gh_F m1 ∧ Q r m1) := by
  have hK39 := hK
  unfold f_Model_digest_39 at h
  refine gh_iload_n gd_Model_digest_39 2 rfl ?_
  refine gh_bipush gd_Model_digest_40 (by decide) (gh_r0 rfl) ?_
  obtain ⟨hA, hB⟩ := h
  refine gh_jge (tgt := 62) gd_Model_digest_42 (by decide) (fun c4587 => ?_) (fun c4587 => ?_)
  · have h := hA c4587
    refine gh_lload_n gd_Model_digest_45 1 rfl ?_
    refine gh_aload_n gd_Model_digest_46 0 rfl (by decide) ?_
    refine gh_iload_n gd_Model_digest_47 2 rfl ?_
    refine cv_Model_sum (d := d + 3) gd_Model_digest_48 gh_k2075 hF (Nat.le_of_ble_eq_true rfl) (gh_C.pw (s_Model_sum d v3 hF h) (fun r4588 h => ?_))
    refine gh_i2l gd_Model_digest_51 ?_
    refine cv_Model_hash (d := d + 3) gd_Model_digest_52 gh_k2071 (Nat.le_of_ble_eq_true rfl) (gh_C.pe (e_Model_hash (d + 3) v1 r4588) ?_)
    refine gh_name (fun v1' hn => ?_)
    have h := h v1' hn
    refine gh_lstore_n (L2 := [(1, 1, v1'), (0, 2, 63), (3, 0, v3)]) gd_Model_digest_55 (by decide) rfl ?_
    obtain ⟨q4590, h⟩ := h
    refine gh_iinc (L2 := [(3, 0, v3 + 1), (1, 1, v1'), (0, 2, 63)]) gd_Model_digest_56 2 rfl q4590 (by decide) rfl ?_
    refine gh_goto (tgt := 39) gd_Model_digest_59 (by decide) ?_
    refine gh_pick (L2 := [(0, 2, 63), (1, 1, v1'), (3, 0, v3 + 1)]) [2, 1, 0] rfl ?_
    exact hK39 v1' (v3 + 1) hF h
  · have h := hB c4587
    refine gh_aload_n gd_Model_digest_62 0 rfl (by decide) ?_
    refine gh_lload_n gd_Model_digest_63 1 rfl ?_
    refine cv_Model_hashNames (d := d + 3) gd_Model_digest_64 gh_k2076 hF (Nat.le_of_ble_eq_true rfl) (gh_C.pw (s_Model_hashNames d v1 hF h) (fun r4591 h => ?_))
    refine gh_lstore_n (L2 := [(1, 1, r4591), (0, 2, 63), (3, 0, v3)]) gd_Model_digest_67 (by decide) rfl ?_
    refine gh_iconst gd_Model_digest_68 (gh_r0 rfl) ?_
    refine gh_istore_n (L2 := [(3, 0, 0), (1, 1, r4591), (0, 2, 63)]) gd_Model_digest_69 (by decide) rfl ?_
    refine gh_pick (L2 := [(0, 2, 63), (1, 1, r4591), (3, 0, 0)]) [2, 1, 0] rfl ?_
    exact gh_L2_sound (T := fun v1 v3 => gh_T E (gh_yModel_digest.cls, prog_14_method_115_code, 4, false, 1) (d + 4) 70 [(0, 2, 63), (1, 1, v1), (3, 0, v3)] [] m (fun r m1 => gh_F m1 ∧ Q r m1)) (fun _ _ => gh_F m) (fun K70 v1 v3 hK hF h => b_Model_digest_70 d hK v1 v3 hF h) r4591 0 hF h
theorem s_Model_digest {E : gh_E} {m : gh_M} {Q : Int → gh_M → Prop} (d : Nat) (hF : gh_F m) (h : w_Model_digest m Q) : gh_C E gh_yModel_digest prog_14_method_115_code 4 (some .long) 1 (d + 4) [(2, 63)] m (fun r m1 => gh_F m1 ∧ Q r m1) := by
  refine gh_enter2 (L := [(0, 2, 63)]) (by decide +kernel) gh_rt1 (Nat.le_of_ble_eq_true rfl) rfl rfl ?_
  unfold w_Model_digest at h
  refine gh_ldc2 (n := 17) gd_Model_digest_0 gh_k2070 (by decide) (gh_r1 rfl) ?_
  refine gh_aload_n gd_Model_digest_3 0 rfl (by decide) ?_
  refine gf_63_1 gd_Model_digest_4 gh_k1368 hF rfl ?_
  refine gh_i2l gd_Model_digest_7 ?_
  refine cv_Model_hash (d := d + 3) gd_Model_digest_8 gh_k2071 (Nat.le_of_ble_eq_true rfl) (gh_C.pe (e_Model_hash (d + 3) 17 (m 63 1)) ?_)
  refine gh_aload_n gd_Model_digest_11 0 rfl (by decide) ?_
  refine gf_63_2 gd_Model_digest_12 gh_k1369 hF rfl ?_
  refine gh_i2l gd_Model_digest_15 ?_
  refine cv_Model_hash (d := d + 3) gd_Model_digest_16 gh_k2071 (Nat.le_of_ble_eq_true rfl) (gh_C.pe (e_Model_hash (d + 3) (x_Model_hash 17 (m 63 1)) (m 63 2)) ?_)
  refine gh_aload_n gd_Model_digest_19 0 rfl (by decide) ?_
  refine gf_63_3 gd_Model_digest_20 gh_k1370 hF rfl ?_
  refine gh_i2l gd_Model_digest_23 ?_
  refine cv_Model_hash (d := d + 3) gd_Model_digest_24 gh_k2071 (Nat.le_of_ble_eq_true rfl) (gh_C.pe (e_Model_hash (d + 3) (x_Model_hash (x_Model_hash 17 (m 63 1)) (m 63 2)) (m 63 3)) ?_)
  refine gh_name (fun v1 hn => ?_)
  have h := h v1 hn
  refine gh_lstore_n (L2 := [(1, 1, v1), (0, 2, 63)]) gd_Model_digest_27 (by decide) rfl ?_
  refine gh_aload_n gd_Model_digest_28 1 rfl (by decide) ?_
  refine gf_63_24 gd_Model_digest_29 gh_k1391 hF rfl ?_
  obtain ⟨hA, hB⟩ := h
  refine gh_zne (tgt := 37) gd_Model_digest_32 (by decide) (fun c4586 => ?_) (fun c4586 => ?_)
  · have h := hA c4586
    refine gh_lload_n gd_Model_digest_35 0 rfl ?_
    exact gh_ret1 rfl gd_Model_digest_36 ⟨hF, h⟩
  · have h := hB c4586
    refine gh_iconst gd_Model_digest_37 (gh_r0 rfl) ?_
    refine gh_istore_n (L2 := [(3, 0, 0), (1, 1, v1), (0, 2, 63)]) gd_Model_digest_38 (by decide) rfl ?_
    refine gh_pick (L2 := [(0, 2, 63), (1, 1, v1), (3, 0, 0)]) [2, 1, 0] rfl ?_
    exact gh_L2_sound (T := fun v1 v3 => gh_T E (gh_yModel_digest.cls, prog_14_method_115_code, 4, false, 1) (d + 4) 39 [(0, 2, 63), (1, 1, v1), (3, 0, v3)] [] m (fun r m1 => gh_F m1 ∧ Q r m1)) (fun _ _ => gh_F m) (fun K39 v1 v3 hK hF h => b_Model_digest_39 d hK v1 v3 hF h) v1 0 hF h
