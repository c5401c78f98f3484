def f_Model_repair_111 (K103 : Int → gh_M → Prop) (K111 : Int → Int → gh_M → Prop) (v1 : Int) (v2 : Int) (m : gh_M) : Prop := ((v2 < (m 63 27) → w_Model_betters v2 m (fun r4069 m4070 => ∀ v1' : Int, v1' = (if (¬ (r4069 = 0) ∨ (¬ (v1 = 0))) then (1:Int) else 0) → gh_i (v2 + 1) ∧ K111 v1' (v2 + 1) m4070)) ∧ (¬ (v2 < (m 63 27)) → K103 v1 m))
def f_Model_repair_103 (Q : Int → gh_M → Prop) (K103 : Int → gh_M → Prop) (v1 : Int) (m : gh_M) : Prop := ((v1 = 0 → 0 ≤ m 63 50 ∧ (m 63 50) < 648 ∧ ((((m 102 (m 63 50)) < 1000000000) → (0 ≤ m 63 50 ∧ (m 63 50) < 648))) ∧ Q (if (m 102 (m 63 50)) < 1000000000 then (m 102 (m 63 50)) else (-1)) m) ∧ (¬ (v1 = 0) → gh_M2 (fun K111 v1 v2 m => f_Model_repair_111 K103 K111 v1 v2 m) 0 0 m))
def f_Model_repair_37 (Q : Int → gh_M → Prop) (K37 : Int → gh_M → Prop) (v1 : Int) (m : gh_M) : Prop := ((v1 < 8100 → 0 ≤ v1 ∧ 0 ≤ v1 % 81 ∧ ∀ v2 : Int, v2 = (v1 % 81) / 9 → 0 ≤ v1 ∧ ∀ v3 : Int, v3 = v1 % 9 → 0 ≤ v1 ∧ ((((v1 % 405) < 81) → (((v2 ≤ v3) → (((v3 ≤ (m 63 50)) → (gh_i (v3 - v2)))))))) ∧ 0 ≤ v1 ∧ v1 < 8100 ∧ gh_i (v1 + 1) ∧ K37 (v1 + 1) (gh_u m 103 v1 (if (v1 % 405) < 81 then (if v2 ≤ v3 then (if v3 ≤ (m 63 50) then (v3 - v2) else 1000000000) else 1000000000) else 1000000000))) ∧ (¬ (v1 < 8100) → gh_M1 (fun K103 v1 m => f_Model_repair_103 Q K103 v1 m) 1 m))
def f_Model_repair_13 (Q : Int → gh_M → Prop) (K13 : Int → gh_M → Prop) (v1 : Int) (m : gh_M) : Prop := ((v1 < 648 → 0 ≤ v1 ∧ v1 < 648 ∧ gh_i (v1 + 1) ∧ K13 (v1 + 1) (gh_u m 102 v1 1000000000)) ∧ (¬ (v1 < 648) → gh_M1 (fun K37 v1 m => f_Model_repair_37 Q K37 v1 m) 0 m))
def w_Model_repair (m : gh_M) (Q : Int → gh_M → Prop) : Prop := (((m 63 24) = 0 → Q (-1003) m) ∧ (¬ ((m 63 24) = 0) → gh_M1 (fun K13 v1 m => f_Model_repair_13 Q K13 v1 m) 0 m))
theorem b_Model_repair_111 {E : gh_E} {K103 : Int → gh_M → Prop} {Q : Int → gh_M → Prop} {K111 : Int → Int → gh_M → Prop} (d : Nat) (hK103 : ∀ (v1 : Int) (m : gh_M), gh_F m → K103 v1 m → gh_T E (gh_yModel_repair.cls, prog_14_method_87_code, 4, false, 0) (d + 2) 103 [(0, 2, 63), (1, 0, v1)] [] m (fun r m1 => gh_F m1 ∧ Q r m1)) (hK : ∀ (v1 : Int) (v2 : Int) (m : gh_M), gh_F m → K111 v1 v2 m → gh_T E (gh_yModel_repair.cls, prog_14_method_87_code, 4, false, 0) (d + 2) 111 [(0, 2, 63), (1, 0, v1), (2, 0, v2)] [] m (fun r m1 => gh_F m1 ∧ Q r m1)) (v1 : Int) (v2 : Int) (m : gh_M) (hF : gh_F m) (h : f_Model_repair_111 K103 K111 v1 v2 m) : gh_T E (gh_yModel_repair.cls, prog_14_method_87_code, 4, false, 0) (d + 2) 111 [(0, 2, 63), (1, 0, v1), (2, 0, v2)] [] m (fun r m1 => gh_F m1 ∧ Q r m1) := by
  have hK111 := hK
  unfold f_Model_repair_111 at h
  refine gh_iload_n gd_Model_repair_111 2 rfl ?_
  refine gh_aload_n gd_Model_repair_112 0 rfl (by decide) ?_
  refine gf_63_27 gd_Model_repair_113 gh_k1397 hF rfl ?_
  obtain ⟨hA, hB⟩ := h
  refine gh_jge (tgt := 143) gd_Model_repair_116 (by decide) (fun c4068 => ?_) (fun c4068 => ?_)
  · have h := hA c4068
    refine gh_aload_n gd_Model_repair_119 0 rfl (by decide) ?_
    refine gh_iload_n gd_Model_repair_120 2 rfl ?_
    refine cv_Model_betters (d := d + 1) gd_Model_repair_121 gh_k1957 hF (Nat.le_of_ble_eq_true rfl) (gh_C.mono (s_Model_betters d v2 hF h) (fun r4069 m4070 hq => ?_))
    obtain ⟨hF, h⟩ := hq
    have k4071 : ∀ x4072 : Int, x4072 = (if (¬ (r4069 = 0) ∨ (¬ (v1 = 0))) then (1:Int) else 0) → gh_T E (gh_yModel_repair.cls, prog_14_method_87_code, 4, false, 0) (d + 2) 136 [(0, 2, 63), (1, 0, v1), (2, 0, v2)] [(0, x4072)] m4070 (fun r m1 => gh_F m1 ∧ Q r m1) := by
      rintro _ rfl
      refine gh_name (fun v1' hn => ?_)
      have h := h v1' hn
      refine gh_istore_n (L2 := [(1, 0, v1'), (0, 2, 63), (2, 0, v2)]) gd_Model_repair_136 (by decide) rfl ?_
      obtain ⟨q4073, h⟩ := h
      refine gh_iinc (L2 := [(2, 0, v2 + 1), (1, 0, v1'), (0, 2, 63)]) gd_Model_repair_137 2 rfl q4073 (by decide) rfl ?_
      refine gh_goto (tgt := 111) gd_Model_repair_140 (by decide) ?_
      refine gh_pick (L2 := [(0, 2, 63), (1, 0, v1'), (2, 0, v2 + 1)]) [2, 1, 0] rfl ?_
      exact hK111 v1' (v2 + 1) m4070 hF h
    refine gh_zne (tgt := 131) gd_Model_repair_124 (by decide) (fun c4074 => ?_) (fun c4074 => ?_)
    · have hz : True := trivial
      refine gh_iload_n gd_Model_repair_127 1 rfl ?_
      refine gh_zeq (tgt := 135) gd_Model_repair_128 (by decide) (fun c4075 => ?_) (fun c4075 => ?_)
      · have hz : True := trivial
        refine gh_iconst gd_Model_repair_135 (gh_r0 rfl) ?_
        exact k4071 _ (if_neg (c := (¬ (r4069 = 0) ∨ (¬ (v1 = 0)))) (fun z => z.elim (fun w => w c4074) (not_not_intro c4075))).symm
      · have hz : True := trivial
        refine gh_iconst gd_Model_repair_131 (gh_r0 rfl) ?_
        refine gh_goto (tgt := 136) gd_Model_repair_132 (by decide) ?_
        exact k4071 _ (if_pos (c := (¬ (r4069 = 0) ∨ (¬ (v1 = 0)))) (Or.inr c4075)).symm
    · have hz : True := trivial
      refine gh_iconst gd_Model_repair_131 (gh_r0 rfl) ?_
      refine gh_goto (tgt := 136) gd_Model_repair_132 (by decide) ?_
      exact k4071 _ (if_pos (c := (¬ (r4069 = 0) ∨ (¬ (v1 = 0)))) (Or.inl c4074)).symm
  · have h := hB c4068
    refine gh_goto (tgt := 103) gd_Model_repair_143 (by decide) ?_
    refine gh_pick (L2 := [(0, 2, 63), (1, 0, v1)]) [0, 1] rfl ?_
    exact hK103 v1 m hF h
theorem b_Model_repair_103 {E : gh_E} {Q : Int → gh_M → Prop} {K103 : Int → gh_M → Prop} (d : Nat) (hK : ∀ (v1 : Int) (m : gh_M), gh_F m → K103 v1 m → gh_T E (gh_yModel_repair.cls, prog_14_method_87_code, 4, false, 0) (d + 2) 103 [(0, 2, 63), (1, 0, v1)] [] m (fun r m1 => gh_F m1 ∧ Q r m1)) (v1 : Int) (m : gh_M) (hF : gh_F m) (h : f_Model_repair_103 Q K103 v1 m) : gh_T E (gh_yModel_repair.cls, prog_14_method_87_code, 4, false, 0) (d + 2) 103 [(0, 2, 63), (1, 0, v1)] [] m (fun r m1 => gh_F m1 ∧ Q r m1) := by
  have hK103 := hK
  unfold f_Model_repair_103 at h
  refine gh_iload_n gd_Model_repair_103 1 rfl ?_
  obtain ⟨hA, hB⟩ := h
  refine gh_zeq (tgt := 146) gd_Model_repair_104 (by decide) (fun c4060 => ?_) (fun c4060 => ?_)
  · have h := hA c4060
    refine gh_aload_n gd_Model_repair_146 0 rfl (by decide) ?_
    refine gf_63_58 gd_Model_repair_147 gh_k1428 hF ?_
    refine gh_aload_n gd_Model_repair_150 0 rfl (by decide) ?_
    refine gf_63_50 gd_Model_repair_151 gh_k1420 hF rfl ?_
    obtain ⟨q4061, h⟩ := h
    obtain ⟨q4062, h⟩ := h
    refine la_102 gd_Model_repair_154 hF q4061 q4062 rfl ?_
    refine gh_ldcw (n := 1000000000) gd_Model_repair_155 gh_k1744 (by decide) (gh_r0 rfl) ?_
    obtain ⟨hk, h⟩ := h
    have k4065 : ∀ x4066 : Int, x4066 = (if (m 102 (m 63 50)) < 1000000000 then (m 102 (m 63 50)) else (-1)) → gh_T E (gh_yModel_repair.cls, prog_14_method_87_code, 4, false, 0) (d + 2) 174 [(0, 2, 63), (1, 0, v1)] [(0, x4066)] m (fun r m1 => gh_F m1 ∧ Q r m1) := by
      rintro _ rfl
      exact gh_ret0 rfl gd_Model_repair_174 ⟨hF, h⟩
    refine gh_jlt (tgt := 165) gd_Model_repair_158 (by decide) (fun c4067 => ?_) (fun c4067 => ?_)
    · have hz : True := trivial
      have hk := hk c4067
      refine gh_aload_n gd_Model_repair_165 0 rfl (by decide) ?_
      refine gf_63_58 gd_Model_repair_166 gh_k1428 hF ?_
      refine gh_aload_n gd_Model_repair_169 0 rfl (by decide) ?_
      refine gf_63_50 gd_Model_repair_170 gh_k1420 hF rfl ?_
      obtain ⟨q4063, hk⟩ := hk
      have q4064 := hk
      refine la_102 gd_Model_repair_173 hF q4063 q4064 rfl ?_
      exact k4065 _ (by rw [if_pos c4067])
    · have hz : True := trivial
      refine gh_iconst gd_Model_repair_161 (gh_r0 rfl) ?_
      refine gh_goto (tgt := 174) gd_Model_repair_162 (by decide) ?_
      exact k4065 _ (by rw [if_neg c4067])
  · have h := hB c4060
    refine gh_iconst gd_Model_repair_107 (gh_r0 rfl) ?_
    refine gh_istore_n (L2 := [(1, 0, 0), (0, 2, 63)]) gd_Model_repair_108 (by decide) rfl ?_
    refine gh_iconst gd_Model_repair_109 (gh_r0 rfl) ?_
    refine gh_istore_n (L2 := [(2, 0, 0), (1, 0, 0), (0, 2, 63)]) gd_Model_repair_110 (by decide) rfl ?_
    refine gh_pick (L2 := [(0, 2, 63), (1, 0, 0), (2, 0, 0)]) [2, 1, 0] rfl ?_
    exact gh_M2_sound (T := fun v1 v2 m => gh_T E (gh_yModel_repair.cls, prog_14_method_87_code, 4, false, 0) (d + 2) 111 [(0, 2, 63), (1, 0, v1), (2, 0, v2)] [] m (fun r m1 => gh_F m1 ∧ Q r m1)) (fun _ _ m => gh_F m) (fun K111 v1 v2 m hK hF h => b_Model_repair_111 d hK103 hK v1 v2 m hF h) 0 0 m hF h
theorem b_Model_repair_37 {E : gh_E} {Q : Int → gh_M → Prop} {K37 : Int → gh_M → Prop} (d : Nat) (hK : ∀ (v1 : Int) (m : gh_M), gh_F m → K37 v1 m → gh_T E (gh_yModel_repair.cls, prog_14_method_87_code, 4, false, 0) (d + 2) 37 [(0, 2, 63), (1, 0, v1)] [] m (fun r m1 => gh_F m1 ∧ Q r m1)) (v1 : Int) (m : gh_M) (hF : gh_F m) (h : f_Model_repair_37 Q K37 v1 m) : gh_T E (gh_yModel_repair.cls, prog_14_method_87_code, 4, false, 0) (d + 2) 37 [(0, 2, 63), (1, 0, v1)] [] m (fun r m1 => gh_F m1 ∧ Q r m1) := by
  have hK37 := hK
  unfold f_Model_repair_37 at h
  refine gh_iload_n gd_Model_repair_37 1 rfl ?_
  refine gh_sipush gd_Model_repair_38 (by decide) (gh_r0 rfl) ?_
  obtain ⟨hA, hB⟩ := h
  refine gh_jge (tgt := 101) gd_Model_repair_41 (by decide) (fun c4046 => ?_) (fun c4046 => ?_)
  · have h := hA c4046
    refine gh_iload_n gd_Model_repair_44 1 rfl ?_
    refine gh_bipush gd_Model_repair_45 (by decide) (gh_r0 rfl) ?_
    obtain ⟨q4047, h⟩ := h
    refine gh_irem gd_Model_repair_47 q4047 (by decide) ?_
    refine gh_bipush gd_Model_repair_48 (by decide) (gh_r0 rfl) ?_
    obtain ⟨q4048, h⟩ := h
    refine gh_idiv gd_Model_repair_50 q4048 (by decide) ?_
    refine gh_name (fun v2 hn => ?_)
    have h := h v2 hn
    refine gh_istore_n (L2 := [(2, 0, v2), (0, 2, 63), (1, 0, v1)]) gd_Model_repair_51 (by decide) rfl ?_
    refine gh_iload_n gd_Model_repair_52 2 rfl ?_
    refine gh_bipush gd_Model_repair_53 (by decide) (gh_r0 rfl) ?_
    obtain ⟨q4049, h⟩ := h
    refine gh_irem gd_Model_repair_55 q4049 (by decide) ?_
    refine gh_name (fun v3 hn => ?_)
    have h := h v3 hn
    refine gh_istore_n (L2 := [(3, 0, v3), (2, 0, v2), (0, 2, 63), (1, 0, v1)]) gd_Model_repair_56 (by decide) rfl ?_
    refine gh_aload_n gd_Model_repair_57 2 rfl (by decide) ?_
    refine gf_63_59 gd_Model_repair_58 gh_k1429 hF ?_
    refine gh_iload_n gd_Model_repair_61 3 rfl ?_
    refine gh_iload_n gd_Model_repair_62 3 rfl ?_
    refine gh_sipush gd_Model_repair_63 (by decide) (gh_r0 rfl) ?_
    obtain ⟨q4050, h⟩ := h
    refine gh_irem gd_Model_repair_66 q4050 (by decide) ?_
    refine gh_bipush gd_Model_repair_67 (by decide) (gh_r0 rfl) ?_
    obtain ⟨hk, h⟩ := h
    have k4052 : ∀ x4053 : Int, x4053 = (if (v1 % 405) < 81 then (if v2 ≤ v3 then (if v3 ≤ (m 63 50) then (v3 - v2) else 1000000000) else 1000000000) else 1000000000) → gh_T E (gh_yModel_repair.cls, prog_14_method_87_code, 4, false, 0) (d + 2) 94 [(3, 0, v3), (2, 0, v2), (0, 2, 63), (1, 0, v1)] [(0, x4053), (0, v1), (2, 103)] m (fun r m1 => gh_F m1 ∧ Q r m1) := by
      rintro _ rfl
      obtain ⟨q4054, h⟩ := h
      obtain ⟨q4055, h⟩ := h
      refine sa_103 gd_Model_repair_94 hF q4054 q4055 (fun hF => ?_)
      obtain ⟨q4056, h⟩ := h
      refine gh_iinc (L2 := [(1, 0, v1 + 1), (3, 0, v3), (2, 0, v2), (0, 2, 63)]) gd_Model_repair_95 3 rfl q4056 (by decide) rfl ?_
      refine gh_goto (tgt := 37) gd_Model_repair_98 (by decide) ?_
      refine gh_pick (L2 := [(0, 2, 63), (1, 0, v1 + 1)]) [3, 0] rfl ?_
      exact hK37 (v1 + 1) (gh_u m 103 v1 (if (v1 % 405) < 81 then (if v2 ≤ v3 then (if v3 ≤ (m 63 50) then (v3 - v2) else 1000000000) else 1000000000) else 1000000000)) hF h
    refine gh_jge (tgt := 91) gd_Model_repair_69 (by decide) (fun c4057 => ?_) (fun c4057 => ?_)
    · have hz : True := trivial
      have hk := hk c4057
      refine gh_iload_n gd_Model_repair_72 1 rfl ?_
      refine gh_iload_n gd_Model_repair_73 0 rfl ?_
      refine gh_jgt (tgt := 91) gd_Model_repair_74 (by decide) (fun c4058 => ?_) (fun c4058 => ?_)
      · have hz : True := trivial
        have hk := hk c4058
        refine gh_iload_n gd_Model_repair_77 0 rfl ?_
        refine gh_aload_n gd_Model_repair_78 2 rfl (by decide) ?_
        refine gf_63_50 gd_Model_repair_79 gh_k1420 hF rfl ?_
        refine gh_jgt (tgt := 91) gd_Model_repair_82 (by decide) (fun c4059 => ?_) (fun c4059 => ?_)
        · have hz : True := trivial
          have hk := hk c4059
          refine gh_iload_n gd_Model_repair_85 0 rfl ?_
          refine gh_iload_n gd_Model_repair_86 1 rfl ?_
          have q4051 := hk
          refine gh_isub gd_Model_repair_87 q4051 ?_
          refine gh_goto (tgt := 94) gd_Model_repair_88 (by decide) ?_
          exact k4052 _ (by rw [if_pos c4057, if_pos c4058, if_pos c4059])
        · have hz : True := trivial
          refine gh_ldcw (n := 1000000000) gd_Model_repair_91 gh_k1744 (by decide) (gh_r0 rfl) ?_
          exact k4052 _ (by rw [if_pos c4057, if_pos c4058, if_neg c4059])
      · have hz : True := trivial
        refine gh_ldcw (n := 1000000000) gd_Model_repair_91 gh_k1744 (by decide) (gh_r0 rfl) ?_
        exact k4052 _ (by rw [if_pos c4057, if_neg c4058])
    · have hz : True := trivial
      refine gh_ldcw (n := 1000000000) gd_Model_repair_91 gh_k1744 (by decide) (gh_r0 rfl) ?_
      exact k4052 _ (by rw [if_neg c4057])
  · have h := hB c4046
    refine gh_iconst gd_Model_repair_101 (gh_r0 rfl) ?_
    refine gh_istore_n (L2 := [(1, 0, 1), (0, 2, 63)]) gd_Model_repair_102 (by decide) rfl ?_
    refine gh_pick (L2 := [(0, 2, 63), (1, 0, 1)]) [1, 0] rfl ?_
    exact gh_M1_sound (T := fun v1 m => gh_T E (gh_yModel_repair.cls, prog_14_method_87_code, 4, false, 0) (d + 2) 103 [(0, 2, 63), (1, 0, v1)] [] m (fun r m1 => gh_F m1 ∧ Q r m1)) (fun _ m => gh_F m) (fun K103 v1 m hK hF h => b_Model_repair_103 d hK v1 m hF h) 1 m hF h
theorem b_Model_repair_13 {E : gh_E} {Q : Int → gh_M → Prop} {K13 : Int → gh_M → Prop} (d : Nat) (hK : ∀ (v1 : Int) (m : gh_M), gh_F m → K13 v1 m → gh_T E (gh_yModel_repair.cls, prog_14_method_87_code, 4, false, 0) (d + 2) 13 [(0, 2, 63), (1, 0, v1)] [] m (fun r m1 => gh_F m1 ∧ Q r m1)) (v1 : Int) (m : gh_M) (hF : gh_F m) (h : f_Model_repair_13 Q K13 v1 m) : gh_T E (gh_yModel_repair.cls, prog_14_method_87_code, 4, false, 0) (d + 2) 13 [(0, 2, 63), (1, 0, v1)] [] m (fun r m1 => gh_F m1 ∧ Q r m1) := by
  have hK13 := hK
  unfold f_Model_repair_13 at h
  refine gh_iload_n gd_Model_repair_13 1 rfl ?_
  refine gh_sipush gd_Model_repair_14 (by decide) (gh_r0 rfl) ?_
  obtain ⟨hA, hB⟩ := h
  refine gh_jge (tgt := 35) gd_Model_repair_17 (by decide) (fun c4042 => ?_) (fun c4042 => ?_)
  · have h := hA c4042
    refine gh_aload_n gd_Model_repair_20 0 rfl (by decide) ?_
    refine gf_63_58 gd_Model_repair_21 gh_k1428 hF ?_
    refine gh_iload_n gd_Model_repair_24 1 rfl ?_
    refine gh_ldcw (n := 1000000000) gd_Model_repair_25 gh_k1744 (by decide) (gh_r0 rfl) ?_
    obtain ⟨q4043, h⟩ := h
    obtain ⟨q4044, h⟩ := h
    refine sa_102 gd_Model_repair_28 hF q4043 q4044 (fun hF => ?_)
    obtain ⟨q4045, h⟩ := h
    refine gh_iinc (L2 := [(1, 0, v1 + 1), (0, 2, 63)]) gd_Model_repair_29 1 rfl q4045 (by decide) rfl ?_
    refine gh_goto (tgt := 13) gd_Model_repair_32 (by decide) ?_
    refine gh_pick (L2 := [(0, 2, 63), (1, 0, v1 + 1)]) [1, 0] rfl ?_
    exact hK13 (v1 + 1) (gh_u m 102 v1 1000000000) hF h
  · have h := hB c4042
    refine gh_iconst gd_Model_repair_35 (gh_r0 rfl) ?_
    refine gh_istore_n (L2 := [(1, 0, 0), (0, 2, 63)]) gd_Model_repair_36 (by decide) rfl ?_
    refine gh_pick (L2 := [(0, 2, 63), (1, 0, 0)]) [1, 0] rfl ?_
    exact gh_M1_sound (T := fun v1 m => gh_T E (gh_yModel_repair.cls, prog_14_method_87_code, 4, false, 0) (d + 2) 37 [(0, 2, 63), (1, 0, v1)] [] m (fun r m1 => gh_F m1 ∧ Q r m1)) (fun _ m => gh_F m) (fun K37 v1 m hK hF h => b_Model_repair_37 d hK v1 m hF h) 0 m hF h
theorem s_Model_repair {E : gh_E} {m : gh_M} {Q : Int → gh_M → Prop} (d : Nat) (hF : gh_F m) (h : w_Model_repair m Q) : gh_C E gh_yModel_repair prog_14_method_87_code 4 (some .int) 0 (d + 2) [(2, 63)] m (fun r m1 => gh_F m1 ∧ Q r m1) := by
  refine gh_enter2 (L := [(0, 2, 63)]) (by decide +kernel) gh_rt0 (Nat.le_of_ble_eq_true rfl) rfl rfl ?_
  unfold w_Model_repair at h
  refine gh_aload_n gd_Model_repair_0 0 rfl (by decide) ?_
  refine gf_63_24 gd_Model_repair_1 gh_k1394 hF rfl ?_
  obtain ⟨hA, hB⟩ := h
  refine gh_zne (tgt := 11) gd_Model_repair_4 (by decide) (fun c4041 => ?_) (fun c4041 => ?_)
  · have h := hA c4041
    refine gh_sipush gd_Model_repair_7 (by decide) (gh_r0 rfl) ?_
    exact gh_ret0 rfl gd_Model_repair_10 ⟨hF, h⟩
  · have h := hB c4041
    refine gh_iconst gd_Model_repair_11 (gh_r0 rfl) ?_
    refine gh_istore_n (L2 := [(1, 0, 0), (0, 2, 63)]) gd_Model_repair_12 (by decide) rfl ?_
    refine gh_pick (L2 := [(0, 2, 63), (1, 0, 0)]) [1, 0] rfl ?_
    exact gh_M1_sound (T := fun v1 m => gh_T E (gh_yModel_repair.cls, prog_14_method_87_code, 4, false, 0) (d + 2) 13 [(0, 2, 63), (1, 0, v1)] [] m (fun r m1 => gh_F m1 ∧ Q r m1)) (fun _ m => gh_F m) (fun K13 v1 m hK hF h => b_Model_repair_13 d hK v1 m hF h) 0 m hF h
def w_Model_want (v1 : Int) (m : gh_M) (Q : Int → gh_M → Prop) : Prop := ((¬ (v1 < 0) → (0 ≤ v1 ∧ v1 < 165888 ∧ (((m 105 v1) < 0) → (0 ≤ v1 ∧ v1 < 165888))))) ∧ ((((v1 < 0) ∨ (¬ ((m 105 v1) < 0) ∨ ((m 106 v1) = (m 63 64)))) → Q 0 m) ∧ (¬ ((v1 < 0) ∨ (¬ ((m 105 v1) < 0) ∨ ((m 106 v1) = (m 63 64)))) → 0 ≤ v1 ∧ v1 < 165888 ∧ 0 ≤ m 63 66 ∧ (m 63 66) < 60000 ∧ gh_i ((m 63 66) + 1) ∧ Q 0 (gh_u (gh_u (gh_u m 106 v1 (m 63 64)) 107 (m 63 66) v1) 63 66 ((m 63 66) + 1))))
theorem s_Model_want {E : gh_E} {m : gh_M} {Q : Int → gh_M → Prop} (d : Nat) (v1 : Int) (hF : gh_F m) (h : w_Model_want v1 m Q) : gh_C E gh_yModel_want prog_14_method_94_code 2 none 9 (d + 0) [(2, 63), (0, v1)] m (fun r m1 => gh_F m1 ∧ Q r m1) := by
  refine gh_enter2 (L := [(0, 2, 63), (1, 0, v1)]) (by decide +kernel) gh_rt9 (Nat.le_of_ble_eq_true rfl) rfl rfl ?_
  unfold w_Model_want at h
  refine gh_iload_n gd_Model_want_0 1 rfl ?_
  obtain ⟨hk, hA, hB⟩ := h
  have k4080 : ((v1 < 0) ∨ (¬ ((m 105 v1) < 0) ∨ ((m 106 v1) = (m 63 64)))) → gh_T E (gh_yModel_want.cls, prog_14_method_94_code, 2, false, 9) (d + 0) 58 [(0, 2, 63), (1, 0, v1)] [] m (fun r m1 => gh_F m1 ∧ Q r m1) := by
    intro c
    have h := hA c
    exact gh_ret9 rfl gd_Model_want_58 ⟨hF, h⟩
  have k4081 : ¬ ((v1 < 0) ∨ (¬ ((m 105 v1) < 0) ∨ ((m 106 v1) = (m 63 64)))) → gh_T E (gh_yModel_want.cls, prog_14_method_94_code, 2, false, 9) (d + 0) 28 [(0, 2, 63), (1, 0, v1)] [] m (fun r m1 => gh_F m1 ∧ Q r m1) := by
    intro c
    have h := hB c
    refine gh_aload_n gd_Model_want_28 0 rfl (by decide) ?_
    refine gf_63_63 gd_Model_want_29 gh_k1433 hF ?_
    refine gh_iload_n gd_Model_want_32 1 rfl ?_
    refine gh_aload_n gd_Model_want_33 0 rfl (by decide) ?_
    refine gf_63_64 gd_Model_want_34 gh_k1434 hF rfl ?_
    obtain ⟨q4082, h⟩ := h
    obtain ⟨q4083, h⟩ := h
    refine sa_106 gd_Model_want_37 hF q4082 q4083 (fun hF => ?_)
    refine gh_aload_n gd_Model_want_38 0 rfl (by decide) ?_
    refine gf_63_65 gd_Model_want_39 gh_k1435 hF ?_
    refine gh_aload_n gd_Model_want_42 0 rfl (by decide) ?_
    refine gf_63_66 gd_Model_want_43 gh_k1436 hF (gh_u_a (by decide)) ?_
    refine gh_iload_n gd_Model_want_46 1 rfl ?_
    obtain ⟨q4084, h⟩ := h
    obtain ⟨q4085, h⟩ := h
    refine sa_107 gd_Model_want_47 hF q4084 q4085 (fun hF => ?_)
    refine gh_aload_n gd_Model_want_48 0 rfl (by decide) ?_
    refine gh_dup gd_Model_want_49 (by decide) ?_
    refine gf_63_66 gd_Model_want_50 gh_k1436 hF ((gh_u_a (by decide)).trans (gh_u_a (by decide))) ?_
    refine gh_iconst gd_Model_want_53 (gh_r0 rfl) ?_
    obtain ⟨q4086, h⟩ := h
    refine gh_iadd gd_Model_want_54 q4086 ?_
    refine pf_63_66 gd_Model_want_55 gh_k1436 hF (fun hF => ?_)
    exact gh_ret9 rfl gd_Model_want_58 ⟨hF, h⟩
  refine gh_zlt (tgt := 58) gd_Model_want_1 (by decide) (fun c4087 => ?_) (fun c4087 => ?_)
  · have hz : True := trivial
    exact k4080 (Or.inl c4087)
  · have hz : True := trivial
    have hk := hk c4087
    refine gh_aload_n gd_Model_want_4 0 rfl (by decide) ?_
    refine gf_63_62 gd_Model_want_5 gh_k1432 hF ?_
    refine gh_iload_n gd_Model_want_8 1 rfl ?_
    obtain ⟨q4076, hk⟩ := hk
    obtain ⟨q4077, hk⟩ := hk
    refine la_105 gd_Model_want_9 hF q4076 q4077 rfl ?_
    refine gh_lconst (n := 0) gd_Model_want_10 (by decide) (gh_r1 rfl) ?_
    refine gh_lcmp gd_Model_want_11 ?_
    refine gh_cge (tgt := 58) gd_Model_want_12 (by decide) (fun c4088 => ?_) (fun c4088 => ?_)
    · have hz : True := trivial
      have hk := hk c4088
      refine gh_aload_n gd_Model_want_15 0 rfl (by decide) ?_
      refine gf_63_63 gd_Model_want_16 gh_k1433 hF ?_
      refine gh_iload_n gd_Model_want_19 1 rfl ?_
      obtain ⟨q4078, hk⟩ := hk
      have q4079 := hk
      refine la_106 gd_Model_want_20 hF q4078 q4079 rfl ?_
      refine gh_aload_n gd_Model_want_21 0 rfl (by decide) ?_
      refine gf_63_64 gd_Model_want_22 gh_k1434 hF rfl ?_
      refine gh_jeq (tgt := 58) gd_Model_want_25 (by decide) (fun c4089 => ?_) (fun c4089 => ?_)
      · have hz : True := trivial
        exact k4080 (Or.inr (Or.inr c4089))
      · have hz : True := trivial
        exact k4081 (fun z => z.elim c4087 (fun z => z.elim (fun w => w c4088) c4089))
    · have hz : True := trivial
      exact k4080 (Or.inr (Or.inl c4088))
def w_Model_keyWithin (v1 : Int) (v2 : Int) (v3 : Int) (v4 : Int) (v5 : Int) (v6 : Int) (m : gh_M) (Q : Int → Prop) : Prop := (((v1 ≤ 0) → (gh_i ((-1) - v1) ∧ gh_i (81 * ((-1) - v1)) ∧ gh_i (9 * v2) ∧ gh_i ((81 * ((-1) - v1)) + (9 * v2)) ∧ gh_i (((81 * ((-1) - v1)) + (9 * v2)) + v3) ∧ 0 ≤ ((81 * ((-1) - v1)) + (9 * v2)) + v3 ∧ (((81 * ((-1) - v1)) + (9 * v2)) + v3) < 648))) ∧ (((¬ (v1 ≤ 0) ∨ ((m 97 (((81 * ((-1) - v1)) + (9 * v2)) + v3)) = 0)) → Q (-1)) ∧ (¬ (¬ (v1 ≤ 0) ∨ ((m 97 (((81 * ((-1) - v1)) + (9 * v2)) + v3)) = 0)) → ∀ v7 : Int, v7 = (if ((v2 = v4) ∧ (v3 = v5)) then (1:Int) else 0) → ∃ J65 : Prop, (J65 → gh_i ((-1) - v1) ∧ (gh_i (81 * ((-1) - v1)) ∧ ((v2 = v3) → (gh_i ((81 * ((-1) - v1)) + 0) ∧ gh_i (256 * ((81 * ((-1) - v1)) + 0)) ∧ gh_i ((256 * ((81 * ((-1) - v1)) + 0)) + (if v7 = 0 then 0 else v6)))) ∧ (¬ (v2 = v3) → (gh_i (9 * v2) ∧ gh_i ((9 * v2) + v3) ∧ gh_i ((81 * ((-1) - v1)) + ((9 * v2) + v3)) ∧ gh_i (256 * ((81 * ((-1) - v1)) + ((9 * v2) + v3))) ∧ gh_i ((256 * ((81 * ((-1) - v1)) + ((9 * v2) + v3))) + (if v7 = 0 then 0 else v6))))) ∧ Q ((if v2 = v3 then ((256 * ((81 * ((-1) - v1)) + 0)) + (if v7 = 0 then 0 else v6)) else ((256 * ((81 * ((-1) - v1)) + ((9 * v2) + v3))) + (if v7 = 0 then 0 else v6))))) ∧ ((¬ (v7 = 0) → (gh_i ((-1) - v1)))) ∧ (((¬ (v7 = 0) ∧ ((gh_iand_f (gh_ishr_f v6 ((-1) - v1)) 1) = 1)) → Q (-1)) ∧ (¬ (¬ (v7 = 0) ∧ ((gh_iand_f (gh_ishr_f v6 ((-1) - v1)) 1) = 1)) → J65))))
theorem s_Model_keyWithin {E : gh_E} {m : gh_M} {Q : Int → Prop} (d : Nat) (v1 : Int) (v2 : Int) (v3 : Int) (v4 : Int) (v5 : Int) (v6 : Int) (hF : gh_F m) (h : w_Model_keyWithin v1 v2 v3 v4 v5 v6 m Q) : gh_C E gh_yModel_keyWithin prog_14_method_91_code 8 (some .int) 0 (d + 1) [(2, 63), (0, v1), (0, v2), (0, v3), (0, v4), (0, v5), (0, v6)] m (fun r m1 => m1 = m ∧ Q r) := by
  refine gh_enter2 (L := [(0, 2, 63), (1, 0, v1), (2, 0, v2), (3, 0, v3), (4, 0, v4), (5, 0, v5), (6, 0, v6)]) (by decide +kernel) gh_rt0 (Nat.le_of_ble_eq_true rfl) rfl rfl ?_
  unfold w_Model_keyWithin at h
  refine gh_iload_n gd_Model_keyWithin_0 1 rfl ?_
  obtain ⟨hk, hA, hB⟩ := h
  have k4097 : (¬ (v1 ≤ 0) ∨ ((m 97 (((81 * ((-1) - v1)) + (9 * v2)) + v3)) = 0)) → gh_T E (gh_yModel_keyWithin.cls, prog_14_method_91_code, 8, false, 0) (d + 1) 25 [(0, 2, 63), (1, 0, v1), (2, 0, v2), (3, 0, v3), (4, 0, v4), (5, 0, v5), (6, 0, v6)] [] m (fun r m1 => m1 = m ∧ Q r) := by
    intro c
    have h := hA c
    refine gh_iconst gd_Model_keyWithin_25 (gh_r0 rfl) ?_
    exact gh_ret0 rfl gd_Model_keyWithin_26 ⟨rfl, h⟩
  have k4098 : ¬ (¬ (v1 ≤ 0) ∨ ((m 97 (((81 * ((-1) - v1)) + (9 * v2)) + v3)) = 0)) → gh_T E (gh_yModel_keyWithin.cls, prog_14_method_91_code, 8, false, 0) (d + 1) 27 [(0, 2, 63), (1, 0, v1), (2, 0, v2), (3, 0, v3), (4, 0, v4), (5, 0, v5), (6, 0, v6)] [] m (fun r m1 => m1 = m ∧ Q r) := by
    intro c
    have h := hB c
    refine gh_iload_n gd_Model_keyWithin_27 2 rfl ?_
    refine gh_iload gd_Model_keyWithin_28 4 rfl ?_
    have k4099 : ∀ x4100 : Int, x4100 = (if ((v2 = v4) ∧ (v3 = v5)) then (1:Int) else 0) → gh_T E (gh_yModel_keyWithin.cls, prog_14_method_91_code, 8, false, 0) (d + 1) 44 [(0, 2, 63), (1, 0, v1), (2, 0, v2), (3, 0, v3), (4, 0, v4), (5, 0, v5), (6, 0, v6)] [(0, x4100)] m (fun r m1 => m1 = m ∧ Q r) := by
      rintro _ rfl
      refine gh_name (fun v7 hn => ?_)
      have h := h v7 hn
      refine gh_istore (L2 := [(7, 0, v7), (0, 2, 63), (1, 0, v1), (2, 0, v2), (3, 0, v3), (4, 0, v4), (5, 0, v5), (6, 0, v6)]) gd_Model_keyWithin_44 (by decide) rfl ?_
      refine gh_iload gd_Model_keyWithin_46 0 rfl ?_
      obtain ⟨J65, hJ65, h⟩ := h
      have hJ65 : gh_F m → J65 → gh_T E (gh_yModel_keyWithin.cls, prog_14_method_91_code, 8, false, 0) (d + 1) 65 [(1, 0, v1), (2, 0, v2), (3, 0, v3), (6, 0, v6), (7, 0, v7)] [] m (fun r m1 => m1 = m ∧ Q r) := by
        intro hF hj
        have h := hJ65 hj
        refine gh_iconst gd_Model_keyWithin_65 (gh_r0 rfl) ?_
        refine gh_iload_n gd_Model_keyWithin_66 0 rfl ?_
        obtain ⟨q4101, h⟩ := h
        refine gh_isub gd_Model_keyWithin_67 q4101 ?_
        refine gh_iload_n gd_Model_keyWithin_68 1 rfl ?_
        refine gh_iload_n gd_Model_keyWithin_69 2 rfl ?_
        refine gh_iload gd_Model_keyWithin_70 4 rfl ?_
        have k4102 : ∀ x4103 : Int, x4103 = (if v7 = 0 then 0 else v6) → gh_T E (gh_yModel_keyWithin.cls, prog_14_method_91_code, 8, false, 0) (d + 1) 81 [(1, 0, v1), (2, 0, v2), (3, 0, v3), (6, 0, v6), (7, 0, v7)] [(0, x4103), (0, v3), (0, v2), (0, (-1) - v1)] m (fun r m1 => m1 = m ∧ Q r) := by
          rintro _ rfl
          obtain ⟨q4104, h⟩ := h
          refine cv_Model_keyOf (d := d) gd_Model_keyWithin_81 gh_k1977 (Nat.le_of_ble_eq_true rfl) (gh_C.pe (e_Model_keyOf d ((-1) - v1) v2 v3 (if v7 = 0 then 0 else v6) q4104) ?_)
          exact gh_ret0 rfl gd_Model_keyWithin_84 ⟨rfl, h⟩
        refine gh_zeq (tgt := 80) gd_Model_keyWithin_72 (by decide) (fun c4105 => ?_) (fun c4105 => ?_)
        · have hz : True := trivial
          refine gh_iconst gd_Model_keyWithin_80 (gh_r0 rfl) ?_
          exact k4102 _ (by rw [if_pos c4105])
        · have hz : True := trivial
          refine gh_iload gd_Model_keyWithin_75 3 rfl ?_
          refine gh_goto (tgt := 81) gd_Model_keyWithin_77 (by decide) ?_
          exact k4102 _ (by rw [if_neg c4105])
      obtain ⟨hk, hA, hB⟩ := h
      have k4107 : (¬ (v7 = 0) ∧ ((gh_iand_f (gh_ishr_f v6 ((-1) - v1)) 1) = 1)) → gh_T E (gh_yModel_keyWithin.cls, prog_14_method_91_code, 8, false, 0) (d + 1) 63 [(7, 0, v7), (0, 2, 63), (1, 0, v1), (2, 0, v2), (3, 0, v3), (4, 0, v4), (5, 0, v5), (6, 0, v6)] [] m (fun r m1 => m1 = m ∧ Q r) := by
        intro c
        have h := hA c
        refine gh_iconst gd_Model_keyWithin_63 (gh_r0 rfl) ?_
        exact gh_ret0 rfl gd_Model_keyWithin_64 ⟨rfl, h⟩
      have k4108 : ¬ (¬ (v7 = 0) ∧ ((gh_iand_f (gh_ishr_f v6 ((-1) - v1)) 1) = 1)) → gh_T E (gh_yModel_keyWithin.cls, prog_14_method_91_code, 8, false, 0) (d + 1) 65 [(7, 0, v7), (0, 2, 63), (1, 0, v1), (2, 0, v2), (3, 0, v3), (4, 0, v4), (5, 0, v5), (6, 0, v6)] [] m (fun r m1 => m1 = m ∧ Q r) := by
        intro c
        have h := hB c
        refine gh_pick (L2 := [(1, 0, v1), (2, 0, v2), (3, 0, v3), (6, 0, v6), (7, 0, v7)]) [2, 3, 4, 7, 0] rfl ?_
        exact hJ65 hF h
      refine gh_zeq (tgt := 65) gd_Model_keyWithin_48 (by decide) (fun c4109 => ?_) (fun c4109 => ?_)
      · have hz : True := trivial
        exact k4108 (fun z => z.1 c4109)
      · have hz : True := trivial
        have hk := hk c4109
        refine gh_iload gd_Model_keyWithin_51 7 rfl ?_
        refine gh_iconst gd_Model_keyWithin_53 (gh_r0 rfl) ?_
        refine gh_iload_n gd_Model_keyWithin_54 2 rfl ?_
        have q4106 := hk
        refine gh_isub gd_Model_keyWithin_55 q4106 ?_
        refine gh_ishr gd_Model_keyWithin_56 ?_
        refine gh_iconst gd_Model_keyWithin_57 (gh_r0 rfl) ?_
        refine gh_iand gd_Model_keyWithin_58 ?_
        refine gh_iconst gd_Model_keyWithin_59 (gh_r0 rfl) ?_
        refine gh_jne (tgt := 65) gd_Model_keyWithin_60 (by decide) (fun c4110 => ?_) (fun c4110 => ?_)
        · have hz : True := trivial
          exact k4107 ⟨c4109, c4110⟩
        · have hz : True := trivial
          exact k4108 (fun z => c4110 z.2)
    refine gh_jne (tgt := 43) gd_Model_keyWithin_30 (by decide) (fun c4111 => ?_) (fun c4111 => ?_)
    · have hz : True := trivial
      refine gh_iload_n gd_Model_keyWithin_33 3 rfl ?_
      refine gh_iload gd_Model_keyWithin_34 5 rfl ?_
      refine gh_jne (tgt := 43) gd_Model_keyWithin_36 (by decide) (fun c4112 => ?_) (fun c4112 => ?_)
      · have hz : True := trivial
        refine gh_iconst gd_Model_keyWithin_39 (gh_r0 rfl) ?_
        refine gh_goto (tgt := 44) gd_Model_keyWithin_40 (by decide) ?_
        exact k4099 _ (if_pos (c := ((v2 = v4) ∧ (v3 = v5))) ⟨c4111, c4112⟩).symm
      · have hz : True := trivial
        refine gh_iconst gd_Model_keyWithin_43 (gh_r0 rfl) ?_
        exact k4099 _ (if_neg (c := ((v2 = v4) ∧ (v3 = v5))) (fun z => c4112 z.2)).symm
    · have hz : True := trivial
      refine gh_iconst gd_Model_keyWithin_43 (gh_r0 rfl) ?_
      exact k4099 _ (if_neg (c := ((v2 = v4) ∧ (v3 = v5))) (fun z => c4111 z.1)).symm
  refine gh_zgt (tgt := 25) gd_Model_keyWithin_1 (by decide) (fun c4113 => ?_) (fun c4113 => ?_)
  · have hz : True := trivial
    have hk := hk c4113
    refine gh_aload_n gd_Model_keyWithin_4 0 rfl (by decide) ?_
    refine gf_63_53 gd_Model_keyWithin_5 gh_k1423 hF ?_
    refine gh_bipush gd_Model_keyWithin_8 (by decide) (gh_r0 rfl) ?_
    refine gh_iconst gd_Model_keyWithin_10 (gh_r0 rfl) ?_
    refine gh_iload_n gd_Model_keyWithin_11 1 rfl ?_
    obtain ⟨q4090, hk⟩ := hk
    refine gh_isub gd_Model_keyWithin_12 q4090 ?_
    obtain ⟨q4091, hk⟩ := hk
    refine gh_imul gd_Model_keyWithin_13 q4091 ?_
    refine gh_bipush gd_Model_keyWithin_14 (by decide) (gh_r0 rfl) ?_
    refine gh_iload_n gd_Model_keyWithin_16 2 rfl ?_
    obtain ⟨q4092, hk⟩ := hk
    refine gh_imul gd_Model_keyWithin_17 q4092 ?_
    obtain ⟨q4093, hk⟩ := hk
    refine gh_iadd gd_Model_keyWithin_18 q4093 ?_
    refine gh_iload_n gd_Model_keyWithin_19 3 rfl ?_
    obtain ⟨q4094, hk⟩ := hk
    refine gh_iadd gd_Model_keyWithin_20 q4094 ?_
    obtain ⟨q4095, hk⟩ := hk
    have q4096 := hk
    refine la_97 gd_Model_keyWithin_21 hF q4095 q4096 rfl ?_
    refine gh_zne (tgt := 27) gd_Model_keyWithin_22 (by decide) (fun c4114 => ?_) (fun c4114 => ?_)
    · have hz : True := trivial
      exact k4097 (Or.inr c4114)
    · have hz : True := trivial
      exact k4098 (fun z => z.elim (fun w => w c4113) c4114)
  · have hz : True := trivial
    exact k4097 (Or.inl c4113)
def f_Model_wantFor_64 (v1 : Int) (v2 : Int) (v3 : Int) (v4 : Int) (v5 : Int) (v6 : Int) (v7 : Int) (K54 : Int → gh_M → Prop) (K64 : Int → gh_M → Prop) (v8 : Int) (m : gh_M) : Prop := ∃ J122 : gh_M → Prop, (∀ (m : gh_M), J122 m → gh_i (v7 + 1) ∧ K54 (v7 + 1) m) ∧ (((v8 ≤ v3) → ((gh_i (405 * v5) ∧ gh_i (81 * v6) ∧ gh_i ((405 * v5) + (81 * v6)) ∧ gh_i (9 * v2) ∧ gh_i (((405 * v5) + (81 * v6)) + (9 * v2)) ∧ gh_i ((((405 * v5) + (81 * v6)) + (9 * v2)) + v7)) ∧ 0 ≤ ((((405 * v5) + (81 * v6)) + (9 * v2)) + v7) ∧ (((((405 * v5) + (81 * v6)) + (9 * v2)) + v7)) < 8100))) ∧ (((¬ (v8 ≤ v3) ∨ ((m 98 (((((405 * v5) + (81 * v6)) + (9 * v2)) + v7))) = 0)) → J122 m) ∧ (¬ (¬ (v8 ≤ v3) ∨ ((m 98 (((((405 * v5) + (81 * v6)) + (9 * v2)) + v7))) = 0)) → gh_i (4 * v5) ∧ gh_i ((4 * v5) + v6) ∧ 0 ≤ (4 * v5) + v6 ∧ ((4 * v5) + v6) < 80 ∧ w_Model_keyWithin (m 81 ((4 * v5) + v6)) v7 v8 v2 v3 v4 m (fun r4138 => w_Model_want r4138 m (fun _ m4141 => gh_i (v8 + 1) ∧ K64 (v8 + 1) m4141))))
def f_Model_wantFor_54 (v1 : Int) (v2 : Int) (v3 : Int) (v4 : Int) (v5 : Int) (v6 : Int) (K39 : Int → gh_M → Prop) (K54 : Int → gh_M → Prop) (v7 : Int) (m : gh_M) : Prop := ((v7 ≤ v3 → gh_M1 (fun K64 v8 m => f_Model_wantFor_64 v1 v2 v3 v4 v5 v6 v7 K54 K64 v8 m) v7 m) ∧ (¬ (v7 ≤ v3) → gh_i (v6 + 1) ∧ K39 (v6 + 1) m))
def f_Model_wantFor_39 (v1 : Int) (v2 : Int) (v3 : Int) (v4 : Int) (v5 : Int) (K18 : Int → gh_M → Prop) (K39 : Int → gh_M → Prop) (v6 : Int) (m : gh_M) : Prop := 0 ≤ v5 ∧ v5 < 20 ∧ ((v6 < (m 80 v5) → gh_M1 (fun K54 v7 m => f_Model_wantFor_54 v1 v2 v3 v4 v5 v6 K39 K54 v7 m) v2 m) ∧ (¬ (v6 < (m 80 v5)) → gh_i (v5 + 1) ∧ K18 (v5 + 1) m))
def f_Model_wantFor_18 (v1 : Int) (v2 : Int) (v3 : Int) (v4 : Int) (Q : Int → gh_M → Prop) (K18 : Int → gh_M → Prop) (v5 : Int) (m : gh_M) : Prop := 0 ≤ v1 ∧ v1 < 8 ∧ 0 ≤ v1 ∧ v1 < 8 ∧ gh_i ((m 77 v1) + (m 78 v1)) ∧ ((v5 < ((m 77 v1) + (m 78 v1)) → gh_M1 (fun K39 v6 m => f_Model_wantFor_39 v1 v2 v3 v4 v5 K18 K39 v6 m) 0 m) ∧ (¬ (v5 < ((m 77 v1) + (m 78 v1))) → Q 0 m))
def w_Model_wantFor (v1 : Int) (v2 : Int) (v3 : Int) (v4 : Int) (m : gh_M) (Q : Int → gh_M → Prop) : Prop := gh_i ((m 63 64) + 1) ∧ 0 ≤ v1 ∧ v1 < 8 ∧ ∀ v5 : Int, v5 = m 77 v1 → gh_M1 (fun K18 v5 m => f_Model_wantFor_18 v1 v2 v3 v4 Q K18 v5 m) v5 (gh_u m 63 64 ((m 63 64) + 1))
theorem b_Model_wantFor_64 {E : gh_E} {v1 : Int} {v2 : Int} {v3 : Int} {v4 : Int} {v5 : Int} {v6 : Int} {v7 : Int} {K54 : Int → gh_M → Prop} {Q : Int → gh_M → Prop} {K64 : Int → gh_M → Prop} (d : Nat) (hK54 : ∀ (v7 : Int) (m : gh_M), gh_F m → K54 v7 m → gh_T E (gh_yModel_wantFor.cls, prog_14_method_95_code, 9, false, 9) (d + 2) 54 [(0, 2, 63), (1, 0, v1), (2, 0, v2), (3, 0, v3), (4, 0, v4), (5, 0, v5), (6, 0, v6), (7, 0, v7)] [] m (fun r m1 => gh_F m1 ∧ Q r m1)) (hK : ∀ (v8 : Int) (m : gh_M), gh_F m → K64 v8 m → gh_T E (gh_yModel_wantFor.cls, prog_14_method_95_code, 9, false, 9) (d + 2) 64 [(0, 2, 63), (1, 0, v1), (2, 0, v2), (3, 0, v3), (4, 0, v4), (5, 0, v5), (6, 0, v6), (7, 0, v7), (8, 0, v8)] [] m (fun r m1 => gh_F m1 ∧ Q r m1)) (v8 : Int) (m : gh_M) (hF : gh_F m) (h : f_Model_wantFor_64 v1 v2 v3 v4 v5 v6 v7 K54 K64 v8 m) : gh_T E (gh_yModel_wantFor.cls, prog_14_method_95_code, 9, false, 9) (d + 2) 64 [(0, 2, 63), (1, 0, v1), (2, 0, v2), (3, 0, v3), (4, 0, v4), (5, 0, v5), (6, 0, v6), (7, 0, v7), (8, 0, v8)] [] m (fun r m1 => gh_F m1 ∧ Q r m1) := by
  have hK64 := hK
  unfold f_Model_wantFor_64 at h
  refine gh_iload gd_Model_wantFor_64 8 rfl ?_
  refine gh_iload_n gd_Model_wantFor_66 3 rfl ?_
  obtain ⟨J122, hJ122, h⟩ := h
  have hJ122 : ∀ (m : gh_M), gh_F m → J122 m → gh_T E (gh_yModel_wantFor.cls, prog_14_method_95_code, 9, false, 9) (d + 2) 122 [(0, 2, 63), (1, 0, v1), (2, 0, v2), (3, 0, v3), (4, 0, v4), (5, 0, v5), (6, 0, v6), (7, 0, v7)] [] m (fun r m1 => gh_F m1 ∧ Q r m1) := by
    intro m hF hj
    have h := hJ122 m hj
    obtain ⟨q4128, h⟩ := h
    refine gh_iinc (L2 := [(7, 0, v7 + 1), (0, 2, 63), (1, 0, v1), (2, 0, v2), (3, 0, v3), (4, 0, v4), (5, 0, v5), (6, 0, v6)]) gd_Model_wantFor_122 7 rfl q4128 (by decide) rfl ?_
    refine gh_goto (tgt := 54) gd_Model_wantFor_125 (by decide) ?_
    refine gh_pick (L2 := [(0, 2, 63), (1, 0, v1), (2, 0, v2), (3, 0, v3), (4, 0, v4), (5, 0, v5), (6, 0, v6), (7, 0, v7 + 1)]) [1, 2, 3, 4, 5, 6, 7, 0] rfl ?_
    exact hK54 (v7 + 1) m hF h
  obtain ⟨hk, hA, hB⟩ := h
  have k4132 : (¬ (v8 ≤ v3) ∨ ((m 98 (((((405 * v5) + (81 * v6)) + (9 * v2)) + v7))) = 0)) → gh_T E (gh_yModel_wantFor.cls, prog_14_method_95_code, 9, false, 9) (d + 2) 122 [(0, 2, 63), (1, 0, v1), (2, 0, v2), (3, 0, v3), (4, 0, v4), (5, 0, v5), (6, 0, v6), (7, 0, v7), (8, 0, v8)] [] m (fun r m1 => gh_F m1 ∧ Q r m1) := by
    intro c
    have h := hA c
    refine gh_pick (L2 := [(0, 2, 63), (1, 0, v1), (2, 0, v2), (3, 0, v3), (4, 0, v4), (5, 0, v5), (6, 0, v6), (7, 0, v7)]) [0, 1, 2, 3, 4, 5, 6, 7] rfl ?_
    exact hJ122 m hF h
  have k4133 : ¬ (¬ (v8 ≤ v3) ∨ ((m 98 (((((405 * v5) + (81 * v6)) + (9 * v2)) + v7))) = 0)) → gh_T E (gh_yModel_wantFor.cls, prog_14_method_95_code, 9, false, 9) (d + 2) 88 [(0, 2, 63), (1, 0, v1), (2, 0, v2), (3, 0, v3), (4, 0, v4), (5, 0, v5), (6, 0, v6), (7, 0, v7), (8, 0, v8)] [] m (fun r m1 => gh_F m1 ∧ Q r m1) := by
    intro c
    have h := hB c
    refine gh_aload_n gd_Model_wantFor_88 0 rfl (by decide) ?_
    refine gh_aload_n gd_Model_wantFor_89 0 rfl (by decide) ?_
    refine gh_aload_n gd_Model_wantFor_90 0 rfl (by decide) ?_
    refine gf_63_34 gd_Model_wantFor_91 gh_k1404 hF ?_
    refine gh_iconst gd_Model_wantFor_94 (gh_r0 rfl) ?_
    refine gh_iload gd_Model_wantFor_95 5 rfl ?_
    obtain ⟨q4134, h⟩ := h
    refine gh_imul gd_Model_wantFor_97 q4134 ?_
    refine gh_iload gd_Model_wantFor_98 6 rfl ?_
    obtain ⟨q4135, h⟩ := h
    refine gh_iadd gd_Model_wantFor_100 q4135 ?_
    obtain ⟨q4136, h⟩ := h
    obtain ⟨q4137, h⟩ := h
    refine la_81 gd_Model_wantFor_101 hF q4136 q4137 rfl ?_
    refine gh_iload gd_Model_wantFor_102 7 rfl ?_
    refine gh_iload gd_Model_wantFor_104 8 rfl ?_
    refine gh_iload_n gd_Model_wantFor_106 2 rfl ?_
    refine gh_iload_n gd_Model_wantFor_107 3 rfl ?_
    refine gh_iload gd_Model_wantFor_108 4 rfl ?_
    refine cv_Model_keyWithin (d := d + 1) gd_Model_wantFor_110 gh_k1988 hF (Nat.le_of_ble_eq_true rfl) (gh_C.pw (s_Model_keyWithin d (m 81 ((4 * v5) + v6)) v7 v8 v2 v3 v4 hF h) (fun r4138 h => ?_))
    refine cv_Model_want (d := d + 1) gd_Model_wantFor_113 gh_k1980 hF (Nat.le_of_ble_eq_true rfl) (gh_C.mono (s_Model_want (d + 1) r4138 hF h) (fun r4140 m4141 hq => ?_))
    obtain ⟨hF, h⟩ := hq
    obtain ⟨q4142, h⟩ := h
    refine gh_iinc (L2 := [(8, 0, v8 + 1), (0, 2, 63), (1, 0, v1), (2, 0, v2), (3, 0, v3), (4, 0, v4), (5, 0, v5), (6, 0, v6), (7, 0, v7)]) gd_Model_wantFor_116 8 rfl q4142 (by decide) rfl ?_
    refine gh_goto (tgt := 64) gd_Model_wantFor_119 (by decide) ?_
    refine gh_pick (L2 := [(0, 2, 63), (1, 0, v1), (2, 0, v2), (3, 0, v3), (4, 0, v4), (5, 0, v5), (6, 0, v6), (7, 0, v7), (8, 0, v8 + 1)]) [1, 2, 3, 4, 5, 6, 7, 8, 0] rfl ?_
    exact hK64 (v8 + 1) m4141 hF h
  refine gh_jgt (tgt := 122) gd_Model_wantFor_67 (by decide) (fun c4143 => ?_) (fun c4143 => ?_)
  · have hz : True := trivial
    have hk := hk c4143
    refine gh_aload_n gd_Model_wantFor_70 0 rfl (by decide) ?_
    refine gf_63_54 gd_Model_wantFor_71 gh_k1424 hF ?_
    refine gh_iload gd_Model_wantFor_74 5 rfl ?_
    refine gh_iload gd_Model_wantFor_76 6 rfl ?_
    refine gh_iload_n gd_Model_wantFor_78 2 rfl ?_
    refine gh_iload gd_Model_wantFor_79 7 rfl ?_
    obtain ⟨q4129, hk⟩ := hk
    refine cv_Model_begun (d := d + 1) gd_Model_wantFor_81 gh_k1907 (Nat.le_of_ble_eq_true rfl) (gh_C.pe (e_Model_begun (d + 1) v5 v6 v2 v7 q4129) ?_)
    obtain ⟨q4130, hk⟩ := hk
    have q4131 := hk
    refine la_98 gd_Model_wantFor_84 hF q4130 q4131 rfl ?_
    refine gh_zeq (tgt := 122) gd_Model_wantFor_85 (by decide) (fun c4144 => ?_) (fun c4144 => ?_)
    · have hz : True := trivial
      exact k4132 (Or.inr c4144)
    · have hz : True := trivial
      exact k4133 (fun z => z.elim (fun w => w c4143) c4144)
  · have hz : True := trivial
    exact k4132 (Or.inl c4143)
theorem b_Model_wantFor_54 {E : gh_E} {v1 : Int} {v2 : Int} {v3 : Int} {v4 : Int} {v5 : Int} {v6 : Int} {K39 : Int → gh_M → Prop} {Q : Int → gh_M → Prop} {K54 : Int → gh_M → Prop} (d : Nat) (hK39 : ∀ (v6 : Int) (m : gh_M), gh_F m → K39 v6 m → gh_T E (gh_yModel_wantFor.cls, prog_14_method_95_code, 9, false, 9) (d + 2) 39 [(0, 2, 63), (1, 0, v1), (2, 0, v2), (3, 0, v3), (4, 0, v4), (5, 0, v5), (6, 0, v6)] [] m (fun r m1 => gh_F m1 ∧ Q r m1)) (hK : ∀ (v7 : Int) (m : gh_M), gh_F m → K54 v7 m → gh_T E (gh_yModel_wantFor.cls, prog_14_method_95_code, 9, false, 9) (d + 2) 54 [(0, 2, 63), (1, 0, v1), (2, 0, v2), (3, 0, v3), (4, 0, v4), (5, 0, v5), (6, 0, v6), (7, 0, v7)] [] m (fun r m1 => gh_F m1 ∧ Q r m1)) (v7 : Int) (m : gh_M) (hF : gh_F m) (h : f_Model_wantFor_54 v1 v2 v3 v4 v5 v6 K39 K54 v7 m) : gh_T E (gh_yModel_wantFor.cls, prog_14_method_95_code, 9, false, 9) (d + 2) 54 [(0, 2, 63), (1, 0, v1), (2, 0, v2), (3, 0, v3), (4, 0, v4), (5, 0, v5), (6, 0, v6), (7, 0, v7)] [] m (fun r m1 => gh_F m1 ∧ Q r m1) := by
  have hK54 := hK
  unfold f_Model_wantFor_54 at h
  refine gh_iload gd_Model_wantFor_54 7 rfl ?_
  refine gh_iload_n gd_Model_wantFor_56 3 rfl ?_
  obtain ⟨hA, hB⟩ := h
  refine gh_jgt (tgt := 128) gd_Model_wantFor_57 (by decide) (fun c4127 => ?_) (fun c4127 => ?_)
  · have h := hA c4127
    refine gh_iload gd_Model_wantFor_60 7 rfl ?_
    refine gh_istore (L2 := [(8, 0, v7), (0, 2, 63), (1, 0, v1), (2, 0, v2), (3, 0, v3), (4, 0, v4), (5, 0, v5), (6, 0, v6), (7, 0, v7)]) gd_Model_wantFor_62 (by decide) rfl ?_
    refine gh_pick (L2 := [(0, 2, 63), (1, 0, v1), (2, 0, v2), (3, 0, v3), (4, 0, v4), (5, 0, v5), (6, 0, v6), (7, 0, v7), (8, 0, v7)]) [1, 2, 3, 4, 5, 6, 7, 8, 0] rfl ?_
    exact gh_M1_sound (T := fun v8 m => gh_T E (gh_yModel_wantFor.cls, prog_14_method_95_code, 9, false, 9) (d + 2) 64 [(0, 2, 63), (1, 0, v1), (2, 0, v2), (3, 0, v3), (4, 0, v4), (5, 0, v5), (6, 0, v6), (7, 0, v7), (8, 0, v8)] [] m (fun r m1 => gh_F m1 ∧ Q r m1)) (fun _ m => gh_F m) (fun K64 v8 m hK hF h => b_Model_wantFor_64 d hK54 hK v8 m hF h) v7 m hF h
  · have h := hB c4127
    obtain ⟨q4145, h⟩ := h
    refine gh_iinc (L2 := [(6, 0, v6 + 1), (0, 2, 63), (1, 0, v1), (2, 0, v2), (3, 0, v3), (4, 0, v4), (5, 0, v5), (7, 0, v7)]) gd_Model_wantFor_128 6 rfl q4145 (by decide) rfl ?_
    refine gh_goto (tgt := 39) gd_Model_wantFor_131 (by decide) ?_
    refine gh_pick (L2 := [(0, 2, 63), (1, 0, v1), (2, 0, v2), (3, 0, v3), (4, 0, v4), (5, 0, v5), (6, 0, v6 + 1)]) [1, 2, 3, 4, 5, 6, 0] rfl ?_
    exact hK39 (v6 + 1) m hF h
theorem b_Model_wantFor_39 {E : gh_E} {v1 : Int} {v2 : Int} {v3 : Int} {v4 : Int} {v5 : Int} {K18 : Int → gh_M → Prop} {Q : Int → gh_M → Prop} {K39 : Int → gh_M → Prop} (d : Nat) (hK18 : ∀ (v5 : Int) (m : gh_M), gh_F m → K18 v5 m → gh_T E (gh_yModel_wantFor.cls, prog_14_method_95_code, 9, false, 9) (d + 2) 18 [(0, 2, 63), (1, 0, v1), (2, 0, v2), (3, 0, v3), (4, 0, v4), (5, 0, v5)] [] m (fun r m1 => gh_F m1 ∧ Q r m1)) (hK : ∀ (v6 : Int) (m : gh_M), gh_F m → K39 v6 m → gh_T E (gh_yModel_wantFor.cls, prog_14_method_95_code, 9, false, 9) (d + 2) 39 [(0, 2, 63), (1, 0, v1), (2, 0, v2), (3, 0, v3), (4, 0, v4), (5, 0, v5), (6, 0, v6)] [] m (fun r m1 => gh_F m1 ∧ Q r m1)) (v6 : Int) (m : gh_M) (hF : gh_F m) (h : f_Model_wantFor_39 v1 v2 v3 v4 v5 K18 K39 v6 m) : gh_T E (gh_yModel_wantFor.cls, prog_14_method_95_code, 9, false, 9) (d + 2) 39 [(0, 2, 63), (1, 0, v1), (2, 0, v2), (3, 0, v3), (4, 0, v4), (5, 0, v5), (6, 0, v6)] [] m (fun r m1 => gh_F m1 ∧ Q r m1) := by
  have hK39 := hK
  unfold f_Model_wantFor_39 at h
  refine gh_iload gd_Model_wantFor_39 6 rfl ?_
  refine gh_aload_n gd_Model_wantFor_41 0 rfl (by decide) ?_
  refine gf_63_33 gd_Model_wantFor_42 gh_k1403 hF ?_
  refine gh_iload gd_Model_wantFor_45 5 rfl ?_
  obtain ⟨q4124, h⟩ := h
  obtain ⟨q4125, h⟩ := h
  refine la_80 gd_Model_wantFor_47 hF q4124 q4125 rfl ?_
  obtain ⟨hA, hB⟩ := h
  refine gh_jge (tgt := 134) gd_Model_wantFor_48 (by decide) (fun c4126 => ?_) (fun c4126 => ?_)
  · have h := hA c4126
    refine gh_iload_n gd_Model_wantFor_51 2 rfl ?_
    refine gh_istore (L2 := [(7, 0, v2), (0, 2, 63), (1, 0, v1), (2, 0, v2), (3, 0, v3), (4, 0, v4), (5, 0, v5), (6, 0, v6)]) gd_Model_wantFor_52 (by decide) rfl ?_
    refine gh_pick (L2 := [(0, 2, 63), (1, 0, v1), (2, 0, v2), (3, 0, v3), (4, 0, v4), (5, 0, v5), (6, 0, v6), (7, 0, v2)]) [1, 2, 3, 4, 5, 6, 7, 0] rfl ?_
    exact gh_M1_sound (T := fun v7 m => gh_T E (gh_yModel_wantFor.cls, prog_14_method_95_code, 9, false, 9) (d + 2) 54 [(0, 2, 63), (1, 0, v1), (2, 0, v2), (3, 0, v3), (4, 0, v4), (5, 0, v5), (6, 0, v6), (7, 0, v7)] [] m (fun r m1 => gh_F m1 ∧ Q r m1)) (fun _ m => gh_F m) (fun K54 v7 m hK hF h => b_Model_wantFor_54 d hK39 hK v7 m hF h) v2 m hF h
  · have h := hB c4126
    obtain ⟨q4146, h⟩ := h
    refine gh_iinc (L2 := [(5, 0, v5 + 1), (0, 2, 63), (1, 0, v1), (2, 0, v2), (3, 0, v3), (4, 0, v4), (6, 0, v6)]) gd_Model_wantFor_134 5 rfl q4146 (by decide) rfl ?_
    refine gh_goto (tgt := 18) gd_Model_wantFor_137 (by decide) ?_
    refine gh_pick (L2 := [(0, 2, 63), (1, 0, v1), (2, 0, v2), (3, 0, v3), (4, 0, v4), (5, 0, v5 + 1)]) [1, 2, 3, 4, 5, 0] rfl ?_
    exact hK18 (v5 + 1) m hF h
theorem b_Model_wantFor_18 {E : gh_E} {v1 : Int} {v2 : Int} {v3 : Int} {v4 : Int} {Q : Int → gh_M → Prop} {K18 : Int → gh_M → Prop} (d : Nat) (hK : ∀ (v5 : Int) (m : gh_M), gh_F m → K18 v5 m → gh_T E (gh_yModel_wantFor.cls, prog_14_method_95_code, 9, false, 9) (d + 2) 18 [(0, 2, 63), (1, 0, v1), (2, 0, v2), (3, 0, v3), (4, 0, v4), (5, 0, v5)] [] m (fun r m1 => gh_F m1 ∧ Q r m1)) (v5 : Int) (m : gh_M) (hF : gh_F m) (h : f_Model_wantFor_18 v1 v2 v3 v4 Q K18 v5 m) : gh_T E (gh_yModel_wantFor.cls, prog_14_method_95_code, 9, false, 9) (d + 2) 18 [(0, 2, 63), (1, 0, v1), (2, 0, v2), (3, 0, v3), (4, 0, v4), (5, 0, v5)] [] m (fun r m1 => gh_F m1 ∧ Q r m1) := by
  have hK18 := hK
  unfold f_Model_wantFor_18 at h
  refine gh_iload gd_Model_wantFor_18 5 rfl ?_
  refine gh_aload_n gd_Model_wantFor_20 0 rfl (by decide) ?_
  refine gf_63_30 gd_Model_wantFor_21 gh_k1400 hF ?_
  refine gh_iload_n gd_Model_wantFor_24 1 rfl ?_
  obtain ⟨q4118, h⟩ := h
  obtain ⟨q4119, h⟩ := h
  refine la_77 gd_Model_wantFor_25 hF q4118 q4119 rfl ?_
  refine gh_aload_n gd_Model_wantFor_26 0 rfl (by decide) ?_
  refine gf_63_31 gd_Model_wantFor_27 gh_k1401 hF ?_
  refine gh_iload_n gd_Model_wantFor_30 1 rfl ?_
  obtain ⟨q4120, h⟩ := h
  obtain ⟨q4121, h⟩ := h
  refine la_78 gd_Model_wantFor_31 hF q4120 q4121 rfl ?_
  obtain ⟨q4122, h⟩ := h
  refine gh_iadd gd_Model_wantFor_32 q4122 ?_
  obtain ⟨hA, hB⟩ := h
  refine gh_jge (tgt := 140) gd_Model_wantFor_33 (by decide) (fun c4123 => ?_) (fun c4123 => ?_)
  · have h := hA c4123
    refine gh_iconst gd_Model_wantFor_36 (gh_r0 rfl) ?_
    refine gh_istore (L2 := [(6, 0, 0), (0, 2, 63), (1, 0, v1), (2, 0, v2), (3, 0, v3), (4, 0, v4), (5, 0, v5)]) gd_Model_wantFor_37 (by decide) rfl ?_
    refine gh_pick (L2 := [(0, 2, 63), (1, 0, v1), (2, 0, v2), (3, 0, v3), (4, 0, v4), (5, 0, v5), (6, 0, 0)]) [1, 2, 3, 4, 5, 6, 0] rfl ?_
    exact gh_M1_sound (T := fun v6 m => gh_T E (gh_yModel_wantFor.cls, prog_14_method_95_code, 9, false, 9) (d + 2) 39 [(0, 2, 63), (1, 0, v1), (2, 0, v2), (3, 0, v3), (4, 0, v4), (5, 0, v5), (6, 0, v6)] [] m (fun r m1 => gh_F m1 ∧ Q r m1)) (fun _ m => gh_F m) (fun K39 v6 m hK hF h => b_Model_wantFor_39 d hK18 hK v6 m hF h) 0 m hF h
  · have h := hB c4123
    exact gh_ret9 rfl gd_Model_wantFor_140 ⟨hF, h⟩
theorem s_Model_wantFor {E : gh_E} {m : gh_M} {Q : Int → gh_M → Prop} (d : Nat) (v1 : Int) (v2 : Int) (v3 : Int) (v4 : Int) (hF : gh_F m) (h : w_Model_wantFor v1 v2 v3 v4 m Q) : gh_C E gh_yModel_wantFor prog_14_method_95_code 9 none 9 (d + 2) [(2, 63), (0, v1), (0, v2), (0, v3), (0, v4)] m (fun r m1 => gh_F m1 ∧ Q r m1) := by
  refine gh_enter2 (L := [(0, 2, 63), (1, 0, v1), (2, 0, v2), (3, 0, v3), (4, 0, v4)]) (by decide +kernel) gh_rt9 (Nat.le_of_ble_eq_true rfl) rfl rfl ?_
  unfold w_Model_wantFor at h
  refine gh_aload_n gd_Model_wantFor_0 0 rfl (by decide) ?_
  refine gh_dup gd_Model_wantFor_1 (by decide) ?_
  refine gf_63_64 gd_Model_wantFor_2 gh_k1434 hF rfl ?_
  refine gh_iconst gd_Model_wantFor_5 (gh_r0 rfl) ?_
  obtain ⟨q4115, h⟩ := h
  refine gh_iadd gd_Model_wantFor_6 q4115 ?_
  refine pf_63_64 gd_Model_wantFor_7 gh_k1434 hF (fun hF => ?_)
  refine gh_aload_n gd_Model_wantFor_10 0 rfl (by decide) ?_
  refine gf_63_30 gd_Model_wantFor_11 gh_k1400 hF ?_
  refine gh_iload_n gd_Model_wantFor_14 1 rfl ?_
  obtain ⟨q4116, h⟩ := h
  obtain ⟨q4117, h⟩ := h
  refine la_77 gd_Model_wantFor_15 hF q4116 q4117 (gh_u_a (by decide)) ?_
  refine gh_name (fun v5 hn => ?_)
  have h := h v5 hn
  refine gh_istore (L2 := [(5, 0, v5), (0, 2, 63), (1, 0, v1), (2, 0, v2), (3, 0, v3), (4, 0, v4)]) gd_Model_wantFor_16 (by decide) rfl ?_
  refine gh_pick (L2 := [(0, 2, 63), (1, 0, v1), (2, 0, v2), (3, 0, v3), (4, 0, v4), (5, 0, v5)]) [1, 2, 3, 4, 5, 0] rfl ?_
  exact gh_M1_sound (T := fun v5 m => gh_T E (gh_yModel_wantFor.cls, prog_14_method_95_code, 9, false, 9) (d + 2) 18 [(0, 2, 63), (1, 0, v1), (2, 0, v2), (3, 0, v3), (4, 0, v4), (5, 0, v5)] [] m (fun r m1 => gh_F m1 ∧ Q r m1)) (fun _ m => gh_F m) (fun K18 v5 m hK hF h => b_Model_wantFor_18 d hK v5 m hF h) v5 (gh_u m 63 64 ((m 63 64) + 1)) hF h
def w_Model_countOf (v1 : Int) (v2 : Int) (v3 : Int) (v4 : Int) (v5 : Int) (v6 : Int) (m : gh_M) (Q : Int → Prop) : Prop := ((v1 ≤ 0 → w_Model_keyWithin v1 v2 v3 v4 v5 v6 m (fun r4148 => ((¬ (r4148 < 0) → (0 ≤ r4148 ∧ r4148 < 165888))) ∧ Q (if r4148 < 0 then 0 else (m 105 r4148)))) ∧ (¬ (v1 ≤ 0) → k_Model_partMakes v1 v2 v3 m ∧ Q (if (¬ ((x_Model_partMakes v1 v2 v3 m) = 0)) then (1:Int) else 0)))
theorem s_Model_countOf {E : gh_E} {m : gh_M} {Q : Int → Prop} (d : Nat) (v1 : Int) (v2 : Int) (v3 : Int) (v4 : Int) (v5 : Int) (v6 : Int) (hF : gh_F m) (h : w_Model_countOf v1 v2 v3 v4 v5 v6 m Q) : gh_C E gh_yModel_countOf prog_14_method_92_code 8 (some .long) 1 (d + 2) [(2, 63), (0, v1), (0, v2), (0, v3), (0, v4), (0, v5), (0, v6)] m (fun r m1 => m1 = m ∧ Q r) := by
  refine gh_enter2 (L := [(0, 2, 63), (1, 0, v1), (2, 0, v2), (3, 0, v3), (4, 0, v4), (5, 0, v5), (6, 0, v6)]) (by decide +kernel) gh_rt1 (Nat.le_of_ble_eq_true rfl) rfl rfl ?_
  unfold w_Model_countOf at h
  refine gh_iload_n gd_Model_countOf_0 1 rfl ?_
  obtain ⟨hA, hB⟩ := h
  refine gh_zle (tgt := 20) gd_Model_countOf_1 (by decide) (fun c4147 => ?_) (fun c4147 => ?_)
  · have h := hA c4147
    refine gh_aload_n gd_Model_countOf_20 0 rfl (by decide) ?_
    refine gh_iload_n gd_Model_countOf_21 1 rfl ?_
    refine gh_iload_n gd_Model_countOf_22 2 rfl ?_
    refine gh_iload_n gd_Model_countOf_23 3 rfl ?_
    refine gh_iload gd_Model_countOf_24 4 rfl ?_
    refine gh_iload gd_Model_countOf_26 5 rfl ?_
    refine gh_iload gd_Model_countOf_28 6 rfl ?_
    refine cv_Model_keyWithin (d := d + 1) gd_Model_countOf_30 gh_k1988 hF (Nat.le_of_ble_eq_true rfl) (gh_C.pw (s_Model_keyWithin d v1 v2 v3 v4 v5 v6 hF h) (fun r4148 h => ?_))
    refine gh_istore (L2 := [(7, 0, r4148), (0, 2, 63), (1, 0, v1), (2, 0, v2), (3, 0, v3), (4, 0, v4), (5, 0, v5), (6, 0, v6)]) gd_Model_countOf_33 (by decide) rfl ?_
    refine gh_iload gd_Model_countOf_35 0 rfl ?_
    obtain ⟨hk, h⟩ := h
    have k4152 : ∀ x4153 : Int, x4153 = (if r4148 < 0 then 0 else (m 105 r4148)) → gh_T E (gh_yModel_countOf.cls, prog_14_method_92_code, 8, false, 1) (d + 2) 51 [(7, 0, r4148), (0, 2, 63), (1, 0, v1), (2, 0, v2), (3, 0, v3), (4, 0, v4), (5, 0, v5), (6, 0, v6)] [(1, x4153)] m (fun r m1 => m1 = m ∧ Q r) := by
      rintro _ rfl
      exact gh_ret1 rfl gd_Model_countOf_51 ⟨rfl, h⟩
    refine gh_zge (tgt := 44) gd_Model_countOf_37 (by decide) (fun c4154 => ?_) (fun c4154 => ?_)
    · have hz : True := trivial
      refine gh_lconst (n := 0) gd_Model_countOf_40 (by decide) (gh_r1 rfl) ?_
      refine gh_goto (tgt := 51) gd_Model_countOf_41 (by decide) ?_
      exact k4152 _ (by rw [if_pos c4154])
    · have hz : True := trivial
      have hk := hk c4154
      refine gh_aload_n gd_Model_countOf_44 1 rfl (by decide) ?_
      refine gf_63_62 gd_Model_countOf_45 gh_k1432 hF ?_
      refine gh_iload gd_Model_countOf_48 0 rfl ?_
      obtain ⟨q4150, hk⟩ := hk
      have q4151 := hk
      refine la_105 gd_Model_countOf_50 hF q4150 q4151 rfl ?_
      exact k4152 _ (by rw [if_neg c4154])
  · have h := hB c4147
    refine gh_aload_n gd_Model_countOf_4 0 rfl (by decide) ?_
    refine gh_iload_n gd_Model_countOf_5 1 rfl ?_
    refine gh_iload_n gd_Model_countOf_6 2 rfl ?_
    refine gh_iload_n gd_Model_countOf_7 3 rfl ?_
    obtain ⟨q4155, h⟩ := h
    refine cv_Model_partMakes (d := d + 1) gd_Model_countOf_8 gh_k1910 hF (Nat.le_of_ble_eq_true rfl) (gh_C.pe (e_Model_partMakes (d + 1) v1 v2 v3 hF q4155) ?_)
    have k4156 : ∀ x4157 : Int, x4157 = (if (¬ ((x_Model_partMakes v1 v2 v3 m) = 0)) then (1:Int) else 0) → gh_T E (gh_yModel_countOf.cls, prog_14_method_92_code, 8, false, 1) (d + 2) 19 [(0, 2, 63), (1, 0, v1), (2, 0, v2), (3, 0, v3), (4, 0, v4), (5, 0, v5), (6, 0, v6)] [(1, x4157)] m (fun r m1 => m1 = m ∧ Q r) := by
      rintro _ rfl
      exact gh_ret1 rfl gd_Model_countOf_19 ⟨rfl, h⟩
    refine gh_zeq (tgt := 18) gd_Model_countOf_11 (by decide) (fun c4158 => ?_) (fun c4158 => ?_)
    · have hz : True := trivial
      refine gh_lconst (n := 0) gd_Model_countOf_18 (by decide) (gh_r1 rfl) ?_
      exact k4156 _ (if_neg (c := (¬ ((x_Model_partMakes v1 v2 v3 m) = 0))) (not_not_intro c4158)).symm
    · have hz : True := trivial
      refine gh_lconst (n := 1) gd_Model_countOf_14 (by decide) (gh_r1 rfl) ?_
      refine gh_goto (tgt := 19) gd_Model_countOf_15 (by decide) ?_
      exact k4156 _ (if_pos (c := (¬ ((x_Model_partMakes v1 v2 v3 m) = 0))) c4158).symm
def f_Model_layWays_75 (v1 : Int) (v2 : Int) (v3 : Int) (v4 : Int) (v5 : Int) (v6 : Int) (K62 : Int → gh_M → Prop) (m : gh_M) (K75 : Int → Int → Prop) (v7 : Int) (v9 : Int) : Prop := ((v9 ≤ v3 → gh_i (9 * v5) ∧ gh_i ((9 * v5) + 9) ∧ gh_i (((9 * v5) + 9) + v9) ∧ 0 ≤ ((9 * v5) + 9) + v9 ∧ (((9 * v5) + 9) + v9) < 45 ∧ ∀ v10 : Int, v10 = m 108 (((9 * v5) + 9) + v9) → ∃ J144 : Int → Prop, (∀ (y0 : Int), J144 y0 → gh_i (v9 + 1) ∧ K75 y0 (v9 + 1)) ∧ ((v10 = 0 → J144 v7) ∧ (¬ (v10 = 0) → gh_i (4 * v1) ∧ gh_i ((4 * v1) + v5) ∧ 0 ≤ (4 * v1) + v5 ∧ ((4 * v1) + v5) < 80 ∧ w_Model_countOf (m 81 ((4 * v1) + v5)) v6 v9 v2 v3 v4 m (fun r4187 => k_Model_times r4187 v10 ∧ k_Model_plus v7 (x_Model_times r4187 v10) ∧ J144 (x_Model_plus v7 (x_Model_times r4187 v10)))))) ∧ (¬ (v9 ≤ v3) → gh_i (9 * v5) ∧ gh_i ((9 * v5) + v6) ∧ 0 ≤ (9 * v5) + v6 ∧ ((9 * v5) + v6) < 45 ∧ gh_i (v6 + 1) ∧ K62 (v6 + 1) (gh_u m 108 ((9 * v5) + v6) v7)))
def f_Model_layWays_62 (v1 : Int) (v2 : Int) (v3 : Int) (v4 : Int) (v5 : Int) (K54 : Int → gh_M → Prop) (K62 : Int → gh_M → Prop) (v6 : Int) (m : gh_M) : Prop := ((v6 ≤ v3 → gh_L2 (fun K75 v7 v9 => f_Model_layWays_75 v1 v2 v3 v4 v5 v6 K62 m K75 v7 v9) 0 v6) ∧ (¬ (v6 ≤ v3) → gh_i (v5 + (-1)) ∧ K54 (v5 + (-1)) m))
def f_Model_layWays_54 (v1 : Int) (v2 : Int) (v3 : Int) (v4 : Int) (Q : Int → gh_M → Prop) (K54 : Int → gh_M → Prop) (v5 : Int) (m : gh_M) : Prop := ((v5 < 0 → Q 0 m) ∧ (¬ (v5 < 0) → gh_M1 (fun K62 v6 m => f_Model_layWays_62 v1 v2 v3 v4 v5 K54 K62 v6 m) v2 m))
def f_Model_layWays_3 (v1 : Int) (v2 : Int) (v3 : Int) (v4 : Int) (Q : Int → gh_M → Prop) (K3 : Int → gh_M → Prop) (v5 : Int) (m : gh_M) : Prop := ((v5 < 45 → 0 ≤ v1 ∧ v1 < 20 ∧ gh_i (9 * (m 80 v1)) ∧ gh_i ((9 * (m 80 v1)) + v3) ∧ 0 ≤ v5 ∧ v5 < 45 ∧ gh_i (v5 + 1) ∧ K3 (v5 + 1) (gh_u m 108 v5 (if (v5 = ((9 * (m 80 v1)) + v3)) then (1:Int) else 0))) ∧ (¬ (v5 < 45) → 0 ≤ v1 ∧ v1 < 20 ∧ gh_i ((m 80 v1) - 1) ∧ ∀ v5' : Int, v5' = (m 80 v1) - 1 → gh_M1 (fun K54 v5 m => f_Model_layWays_54 v1 v2 v3 v4 Q K54 v5 m) v5' m))
def w_Model_layWays (v1 : Int) (v2 : Int) (v3 : Int) (v4 : Int) (m : gh_M) (Q : Int → gh_M → Prop) : Prop := gh_M1 (fun K3 v5 m => f_Model_layWays_3 v1 v2 v3 v4 Q K3 v5 m) 0 m
theorem b_Model_layWays_75 {E : gh_E} {v1 : Int} {v2 : Int} {v3 : Int} {v4 : Int} {v5 : Int} {v6 : Int} {K62 : Int → gh_M → Prop} {Q : Int → gh_M → Prop} {K75 : Int → Int → Prop} (d : Nat) {m : gh_M} (hK62 : ∀ (v6 : Int) (m : gh_M), gh_F m → K62 v6 m → gh_T E (gh_yModel_layWays.cls, prog_14_method_93_code, 12, false, 9) (d + 3) 62 [(0, 2, 63), (1, 0, v1), (2, 0, v2), (3, 0, v3), (4, 0, v4), (5, 0, v5), (6, 0, v6)] [] m (fun r m1 => gh_F m1 ∧ Q r m1)) (hK : ∀ (v7 : Int) (v9 : Int), gh_F m → K75 v7 v9 → gh_T E (gh_yModel_layWays.cls, prog_14_method_93_code, 12, false, 9) (d + 3) 75 [(0, 2, 63), (1, 0, v1), (2, 0, v2), (3, 0, v3), (4, 0, v4), (5, 0, v5), (6, 0, v6), (7, 1, v7), (9, 0, v9)] [] m (fun r m1 => gh_F m1 ∧ Q r m1)) (v7 : Int) (v9 : Int) (hF : gh_F m) (h : f_Model_layWays_75 v1 v2 v3 v4 v5 v6 K62 m K75 v7 v9) : gh_T E (gh_yModel_layWays.cls, prog_14_method_93_code, 12, false, 9) (d + 3) 75 [(0, 2, 63), (1, 0, v1), (2, 0, v2), (3, 0, v3), (4, 0, v4), (5, 0, v5), (6, 0, v6), (7, 1, v7), (9, 0, v9)] [] m (fun r m1 => gh_F m1 ∧ Q r m1) := by
  have hK75 := hK
  unfold f_Model_layWays_75 at h
  refine gh_iload gd_Model_layWays_75 8 rfl ?_
  refine gh_iload_n gd_Model_layWays_77 3 rfl ?_
  obtain ⟨hA, hB⟩ := h
  refine gh_jgt (tgt := 152) gd_Model_layWays_78 (by decide) (fun c4175 => ?_) (fun c4175 => ?_)
  · have h := hA c4175
    refine gh_aload_n gd_Model_layWays_81 0 rfl (by decide) ?_
    refine gf_63_67 gd_Model_layWays_82 gh_k1437 hF ?_
    refine gh_bipush gd_Model_layWays_85 (by decide) (gh_r0 rfl) ?_
    refine gh_iload gd_Model_layWays_87 5 rfl ?_
    obtain ⟨q4176, h⟩ := h
    refine gh_imul gd_Model_layWays_89 q4176 ?_
    refine gh_bipush gd_Model_layWays_90 (by decide) (gh_r0 rfl) ?_
    obtain ⟨q4177, h⟩ := h
    refine gh_iadd gd_Model_layWays_92 q4177 ?_
    refine gh_iload gd_Model_layWays_93 8 rfl ?_
    obtain ⟨q4178, h⟩ := h
    refine gh_iadd gd_Model_layWays_95 q4178 ?_
    obtain ⟨q4179, h⟩ := h
    obtain ⟨q4180, h⟩ := h
    refine la_108 gd_Model_layWays_96 hF q4179 q4180 rfl ?_
    refine gh_name (fun v10 hn => ?_)
    have h := h v10 hn
    refine gh_lstore (L2 := [(10, 1, v10), (0, 2, 63), (1, 0, v1), (2, 0, v2), (3, 0, v3), (4, 0, v4), (5, 0, v5), (6, 0, v6), (7, 1, v7), (9, 0, v9)]) gd_Model_layWays_97 (by decide) rfl ?_
    refine gh_lload gd_Model_layWays_99 0 rfl ?_
    refine gh_lconst (n := 0) gd_Model_layWays_101 (by decide) (gh_r1 rfl) ?_
    refine gh_lcmp gd_Model_layWays_102 ?_
    obtain ⟨J144, hJ144, h⟩ := h
    have hJ144 : ∀ (y0 : Int), gh_F m → J144 y0 → gh_T E (gh_yModel_layWays.cls, prog_14_method_93_code, 12, false, 9) (d + 3) 144 [(0, 2, 63), (1, 0, v1), (2, 0, v2), (3, 0, v3), (4, 0, v4), (5, 0, v5), (6, 0, v6), (9, 0, v9)] [(1, y0)] m (fun r m1 => gh_F m1 ∧ Q r m1) := by
      intro y0 hF hj
      have h := hJ144 y0 hj
      refine gh_lstore (L2 := [(7, 1, y0), (0, 2, 63), (1, 0, v1), (2, 0, v2), (3, 0, v3), (4, 0, v4), (5, 0, v5), (6, 0, v6), (9, 0, v9)]) gd_Model_layWays_144 (by decide) rfl ?_
      obtain ⟨q4181, h⟩ := h
      refine gh_iinc (L2 := [(9, 0, v9 + 1), (7, 1, y0), (0, 2, 63), (1, 0, v1), (2, 0, v2), (3, 0, v3), (4, 0, v4), (5, 0, v5), (6, 0, v6)]) gd_Model_layWays_146 8 rfl q4181 (by decide) rfl ?_
      refine gh_goto (tgt := 75) gd_Model_layWays_149 (by decide) ?_
      refine gh_pick (L2 := [(0, 2, 63), (1, 0, v1), (2, 0, v2), (3, 0, v3), (4, 0, v4), (5, 0, v5), (6, 0, v6), (7, 1, y0), (9, 0, v9 + 1)]) [2, 3, 4, 5, 6, 7, 8, 1, 0] rfl ?_
      exact hK75 y0 (v9 + 1) hF h
    obtain ⟨hA, hB⟩ := h
    refine gh_cne (tgt := 111) gd_Model_layWays_103 (by decide) (fun c4182 => ?_) (fun c4182 => ?_)
    · have h := hA c4182
      refine gh_lload gd_Model_layWays_106 8 rfl ?_
      refine gh_goto (tgt := 144) gd_Model_layWays_108 (by decide) ?_
      refine gh_pick (L2 := [(0, 2, 63), (1, 0, v1), (2, 0, v2), (3, 0, v3), (4, 0, v4), (5, 0, v5), (6, 0, v6), (9, 0, v9)]) [1, 2, 3, 4, 5, 6, 7, 9] rfl ?_
      exact hJ144 v7 hF h
    · have h := hB c4182
      refine gh_lload gd_Model_layWays_111 8 rfl ?_
      refine gh_aload_n gd_Model_layWays_113 1 rfl (by decide) ?_
      refine gh_aload_n gd_Model_layWays_114 1 rfl (by decide) ?_
      refine gf_63_34 gd_Model_layWays_115 gh_k1404 hF ?_
      refine gh_iconst gd_Model_layWays_118 (gh_r0 rfl) ?_
      refine gh_iload_n gd_Model_layWays_119 2 rfl ?_
      obtain ⟨q4183, h⟩ := h
      refine gh_imul gd_Model_layWays_120 q4183 ?_
      refine gh_iload gd_Model_layWays_121 6 rfl ?_
      obtain ⟨q4184, h⟩ := h
      refine gh_iadd gd_Model_layWays_123 q4184 ?_
      obtain ⟨q4185, h⟩ := h
      obtain ⟨q4186, h⟩ := h
      refine la_81 gd_Model_layWays_124 hF q4185 q4186 rfl ?_
      refine gh_iload gd_Model_layWays_125 7 rfl ?_
      refine gh_iload gd_Model_layWays_127 9 rfl ?_
      refine gh_iload_n gd_Model_layWays_129 3 rfl ?_
      refine gh_iload_n gd_Model_layWays_130 4 rfl ?_
      refine gh_iload gd_Model_layWays_131 5 rfl ?_
      refine cv_Model_countOf (d := d + 2) gd_Model_layWays_133 gh_k1996 hF (Nat.le_of_ble_eq_true rfl) (gh_C.pw (s_Model_countOf d (m 81 ((4 * v1) + v5)) v6 v9 v2 v3 v4 hF h) (fun r4187 h => ?_))
      refine gh_lload gd_Model_layWays_136 0 rfl ?_
      obtain ⟨q4189, h⟩ := h
      refine cv_Model_times (d := d + 2) gd_Model_layWays_138 gh_k2000 (Nat.le_of_ble_eq_true rfl) (gh_C.pe (e_Model_times (d + 2) r4187 v10 q4189) ?_)
      obtain ⟨q4190, h⟩ := h
      refine cv_Model_plus (d := d + 2) gd_Model_layWays_141 gh_k2005 (Nat.le_of_ble_eq_true rfl) (gh_C.pe (e_Model_plus (d + 2) v7 (x_Model_times r4187 v10) q4190) ?_)
      refine gh_pick (L2 := [(0, 2, 63), (1, 0, v1), (2, 0, v2), (3, 0, v3), (4, 0, v4), (5, 0, v5), (6, 0, v6), (9, 0, v9)]) [1, 2, 3, 4, 5, 6, 7, 9] rfl ?_
      exact hJ144 (x_Model_plus v7 (x_Model_times r4187 v10)) hF h
  · have h := hB c4175
    refine gh_aload_n gd_Model_layWays_152 0 rfl (by decide) ?_
    refine gf_63_67 gd_Model_layWays_153 gh_k1437 hF ?_
    refine gh_bipush gd_Model_layWays_156 (by decide) (gh_r0 rfl) ?_
    refine gh_iload gd_Model_layWays_158 5 rfl ?_
    obtain ⟨q4191, h⟩ := h
    refine gh_imul gd_Model_layWays_160 q4191 ?_
    refine gh_iload gd_Model_layWays_161 6 rfl ?_
    obtain ⟨q4192, h⟩ := h
    refine gh_iadd gd_Model_layWays_163 q4192 ?_
    refine gh_lload gd_Model_layWays_164 7 rfl ?_
    obtain ⟨q4193, h⟩ := h
    obtain ⟨q4194, h⟩ := h
    refine sa_108 gd_Model_layWays_166 hF q4193 q4194 (fun hF => ?_)
    obtain ⟨q4195, h⟩ := h
    refine gh_iinc (L2 := [(6, 0, v6 + 1), (0, 2, 63), (1, 0, v1), (2, 0, v2), (3, 0, v3), (4, 0, v4), (5, 0, v5), (7, 1, v7), (9, 0, v9)]) gd_Model_layWays_167 6 rfl q4195 (by decide) rfl ?_
    refine gh_goto (tgt := 62) gd_Model_layWays_170 (by decide) ?_
    refine gh_pick (L2 := [(0, 2, 63), (1, 0, v1), (2, 0, v2), (3, 0, v3), (4, 0, v4), (5, 0, v5), (6, 0, v6 + 1)]) [1, 2, 3, 4, 5, 6, 0] rfl ?_
    exact hK62 (v6 + 1) (gh_u m 108 ((9 * v5) + v6) v7) hF h
theorem b_Model_layWays_62 {E : gh_E} {v1 : Int} {v2 : Int} {v3 : Int} {v4 : Int} {v5 : Int} {K54 : Int → gh_M → Prop} {Q : Int → gh_M → Prop} {K62 : Int → gh_M → Prop} (d : Nat) (hK54 : ∀ (v5 : Int) (m : gh_M), gh_F m → K54 v5 m → gh_T E (gh_yModel_layWays.cls, prog_14_method_93_code, 12, false, 9) (d + 3) 54 [(0, 2, 63), (1, 0, v1), (2, 0, v2), (3, 0, v3), (4, 0, v4), (5, 0, v5)] [] m (fun r m1 => gh_F m1 ∧ Q r m1)) (hK : ∀ (v6 : Int) (m : gh_M), gh_F m → K62 v6 m → gh_T E (gh_yModel_layWays.cls, prog_14_method_93_code, 12, false, 9) (d + 3) 62 [(0, 2, 63), (1, 0, v1), (2, 0, v2), (3, 0, v3), (4, 0, v4), (5, 0, v5), (6, 0, v6)] [] m (fun r m1 => gh_F m1 ∧ Q r m1)) (v6 : Int) (m : gh_M) (hF : gh_F m) (h : f_Model_layWays_62 v1 v2 v3 v4 v5 K54 K62 v6 m) : gh_T E (gh_yModel_layWays.cls, prog_14_method_93_code, 12, false, 9) (d + 3) 62 [(0, 2, 63), (1, 0, v1), (2, 0, v2), (3, 0, v3), (4, 0, v4), (5, 0, v5), (6, 0, v6)] [] m (fun r m1 => gh_F m1 ∧ Q r m1) := by
  have hK62 := hK
  unfold f_Model_layWays_62 at h
  refine gh_iload gd_Model_layWays_62 6 rfl ?_
  refine gh_iload_n gd_Model_layWays_64 3 rfl ?_
  obtain ⟨hA, hB⟩ := h
  refine gh_jgt (tgt := 173) gd_Model_layWays_65 (by decide) (fun c4174 => ?_) (fun c4174 => ?_)
  · have h := hA c4174
    refine gh_lconst (n := 0) gd_Model_layWays_68 (by decide) (gh_r1 rfl) ?_
    refine gh_lstore (L2 := [(7, 1, 0), (0, 2, 63), (1, 0, v1), (2, 0, v2), (3, 0, v3), (4, 0, v4), (5, 0, v5), (6, 0, v6)]) gd_Model_layWays_69 (by decide) rfl ?_
    refine gh_iload gd_Model_layWays_71 7 rfl ?_
    refine gh_istore (L2 := [(9, 0, v6), (7, 1, 0), (0, 2, 63), (1, 0, v1), (2, 0, v2), (3, 0, v3), (4, 0, v4), (5, 0, v5), (6, 0, v6)]) gd_Model_layWays_73 (by decide) rfl ?_
    refine gh_pick (L2 := [(0, 2, 63), (1, 0, v1), (2, 0, v2), (3, 0, v3), (4, 0, v4), (5, 0, v5), (6, 0, v6), (7, 1, 0), (9, 0, v6)]) [2, 3, 4, 5, 6, 7, 8, 1, 0] rfl ?_
    exact gh_L2_sound (T := fun v7 v9 => gh_T E (gh_yModel_layWays.cls, prog_14_method_93_code, 12, false, 9) (d + 3) 75 [(0, 2, 63), (1, 0, v1), (2, 0, v2), (3, 0, v3), (4, 0, v4), (5, 0, v5), (6, 0, v6), (7, 1, v7), (9, 0, v9)] [] m (fun r m1 => gh_F m1 ∧ Q r m1)) (fun _ _ => gh_F m) (fun K75 v7 v9 hK hF h => b_Model_layWays_75 d hK62 hK v7 v9 hF h) 0 v6 hF h
  · have h := hB c4174
    obtain ⟨q4196, h⟩ := h
    refine gh_iinc (L2 := [(5, 0, v5 + (-1)), (0, 2, 63), (1, 0, v1), (2, 0, v2), (3, 0, v3), (4, 0, v4), (6, 0, v6)]) gd_Model_layWays_173 5 rfl q4196 (by decide) rfl ?_
    refine gh_goto (tgt := 54) gd_Model_layWays_176 (by decide) ?_
    refine gh_pick (L2 := [(0, 2, 63), (1, 0, v1), (2, 0, v2), (3, 0, v3), (4, 0, v4), (5, 0, v5 + (-1))]) [1, 2, 3, 4, 5, 0] rfl ?_
    exact hK54 (v5 + (-1)) m hF h
theorem b_Model_layWays_54 {E : gh_E} {v1 : Int} {v2 : Int} {v3 : Int} {v4 : Int} {Q : Int → gh_M → Prop} {K54 : Int → gh_M → Prop} (d : Nat) (hK : ∀ (v5 : Int) (m : gh_M), gh_F m → K54 v5 m → gh_T E (gh_yModel_layWays.cls, prog_14_method_93_code, 12, false, 9) (d + 3) 54 [(0, 2, 63), (1, 0, v1), (2, 0, v2), (3, 0, v3), (4, 0, v4), (5, 0, v5)] [] m (fun r m1 => gh_F m1 ∧ Q r m1)) (v5 : Int) (m : gh_M) (hF : gh_F m) (h : f_Model_layWays_54 v1 v2 v3 v4 Q K54 v5 m) : gh_T E (gh_yModel_layWays.cls, prog_14_method_93_code, 12, false, 9) (d + 3) 54 [(0, 2, 63), (1, 0, v1), (2, 0, v2), (3, 0, v3), (4, 0, v4), (5, 0, v5)] [] m (fun r m1 => gh_F m1 ∧ Q r m1) := by
  have hK54 := hK
  unfold f_Model_layWays_54 at h
  refine gh_iload gd_Model_layWays_54 5 rfl ?_
  obtain ⟨hA, hB⟩ := h
  refine gh_zlt (tgt := 179) gd_Model_layWays_56 (by decide) (fun c4173 => ?_) (fun c4173 => ?_)
  · have h := hA c4173
    exact gh_ret9 rfl gd_Model_layWays_179 ⟨hF, h⟩
  · have h := hB c4173
    refine gh_iload_n gd_Model_layWays_59 2 rfl ?_
    refine gh_istore (L2 := [(6, 0, v2), (0, 2, 63), (1, 0, v1), (2, 0, v2), (3, 0, v3), (4, 0, v4), (5, 0, v5)]) gd_Model_layWays_60 (by decide) rfl ?_
    refine gh_pick (L2 := [(0, 2, 63), (1, 0, v1), (2, 0, v2), (3, 0, v3), (4, 0, v4), (5, 0, v5), (6, 0, v2)]) [1, 2, 3, 4, 5, 6, 0] rfl ?_
    exact gh_M1_sound (T := fun v6 m => gh_T E (gh_yModel_layWays.cls, prog_14_method_93_code, 12, false, 9) (d + 3) 62 [(0, 2, 63), (1, 0, v1), (2, 0, v2), (3, 0, v3), (4, 0, v4), (5, 0, v5), (6, 0, v6)] [] m (fun r m1 => gh_F m1 ∧ Q r m1)) (fun _ m => gh_F m) (fun K62 v6 m hK hF h => b_Model_layWays_62 d hK54 hK v6 m hF h) v2 m hF h
theorem b_Model_layWays_3 {E : gh_E} {v1 : Int} {v2 : Int} {v3 : Int} {v4 : Int} {Q : Int → gh_M → Prop} {K3 : Int → gh_M → Prop} (d : Nat) (hK : ∀ (v5 : Int) (m : gh_M), gh_F m → K3 v5 m → gh_T E (gh_yModel_layWays.cls, prog_14_method_93_code, 12, false, 9) (d + 3) 3 [(0, 2, 63), (1, 0, v1), (2, 0, v2), (3, 0, v3), (4, 0, v4), (5, 0, v5)] [] m (fun r m1 => gh_F m1 ∧ Q r m1)) (v5 : Int) (m : gh_M) (hF : gh_F m) (h : f_Model_layWays_3 v1 v2 v3 v4 Q K3 v5 m) : gh_T E (gh_yModel_layWays.cls, prog_14_method_93_code, 12, false, 9) (d + 3) 3 [(0, 2, 63), (1, 0, v1), (2, 0, v2), (3, 0, v3), (4, 0, v4), (5, 0, v5)] [] m (fun r m1 => gh_F m1 ∧ Q r m1) := by
  have hK3 := hK
  unfold f_Model_layWays_3 at h
  refine gh_iload gd_Model_layWays_3 5 rfl ?_
  refine gh_bipush gd_Model_layWays_5 (by decide) (gh_r0 rfl) ?_
  obtain ⟨hA, hB⟩ := h
  refine gh_jge (tgt := 44) gd_Model_layWays_7 (by decide) (fun c4159 => ?_) (fun c4159 => ?_)
  · have h := hA c4159
    refine gh_aload_n gd_Model_layWays_10 0 rfl (by decide) ?_
    refine gf_63_67 gd_Model_layWays_11 gh_k1437 hF ?_
    refine gh_iload gd_Model_layWays_14 5 rfl ?_
    refine gh_iload gd_Model_layWays_16 5 rfl ?_
    refine gh_bipush gd_Model_layWays_18 (by decide) (gh_r0 rfl) ?_
    refine gh_aload_n gd_Model_layWays_20 0 rfl (by decide) ?_
    refine gf_63_33 gd_Model_layWays_21 gh_k1403 hF ?_
    refine gh_iload_n gd_Model_layWays_24 1 rfl ?_
    obtain ⟨q4160, h⟩ := h
    obtain ⟨q4161, h⟩ := h
    refine la_80 gd_Model_layWays_25 hF q4160 q4161 rfl ?_
    obtain ⟨q4162, h⟩ := h
    refine gh_imul gd_Model_layWays_26 q4162 ?_
    refine gh_iload_n gd_Model_layWays_27 3 rfl ?_
    obtain ⟨q4163, h⟩ := h
    refine gh_iadd gd_Model_layWays_28 q4163 ?_
    have k4164 : ∀ x4165 : Int, x4165 = (if (v5 = ((9 * (m 80 v1)) + v3)) then (1:Int) else 0) → gh_T E (gh_yModel_layWays.cls, prog_14_method_93_code, 12, false, 9) (d + 3) 37 [(0, 2, 63), (1, 0, v1), (2, 0, v2), (3, 0, v3), (4, 0, v4), (5, 0, v5)] [(1, x4165), (0, v5), (2, 108)] m (fun r m1 => gh_F m1 ∧ Q r m1) := by
      rintro _ rfl
      obtain ⟨q4166, h⟩ := h
      obtain ⟨q4167, h⟩ := h
      refine sa_108 gd_Model_layWays_37 hF q4166 q4167 (fun hF => ?_)
      obtain ⟨q4168, h⟩ := h
      refine gh_iinc (L2 := [(5, 0, v5 + 1), (0, 2, 63), (1, 0, v1), (2, 0, v2), (3, 0, v3), (4, 0, v4)]) gd_Model_layWays_38 5 rfl q4168 (by decide) rfl ?_
      refine gh_goto (tgt := 3) gd_Model_layWays_41 (by decide) ?_
      refine gh_pick (L2 := [(0, 2, 63), (1, 0, v1), (2, 0, v2), (3, 0, v3), (4, 0, v4), (5, 0, v5 + 1)]) [1, 2, 3, 4, 5, 0] rfl ?_
      exact hK3 (v5 + 1) (gh_u m 108 v5 (if (v5 = ((9 * (m 80 v1)) + v3)) then (1:Int) else 0)) hF h
    refine gh_jne (tgt := 36) gd_Model_layWays_29 (by decide) (fun c4169 => ?_) (fun c4169 => ?_)
    · have hz : True := trivial
      refine gh_lconst (n := 1) gd_Model_layWays_32 (by decide) (gh_r1 rfl) ?_
      refine gh_goto (tgt := 37) gd_Model_layWays_33 (by decide) ?_
      exact k4164 _ (if_pos (c := (v5 = ((9 * (m 80 v1)) + v3))) c4169).symm
    · have hz : True := trivial
      refine gh_lconst (n := 0) gd_Model_layWays_36 (by decide) (gh_r1 rfl) ?_
      exact k4164 _ (if_neg (c := (v5 = ((9 * (m 80 v1)) + v3))) c4169).symm
  · have h := hB c4159
    refine gh_aload_n gd_Model_layWays_44 0 rfl (by decide) ?_
    refine gf_63_33 gd_Model_layWays_45 gh_k1403 hF ?_
    refine gh_iload_n gd_Model_layWays_48 1 rfl ?_
    obtain ⟨q4170, h⟩ := h
    obtain ⟨q4171, h⟩ := h
    refine la_80 gd_Model_layWays_49 hF q4170 q4171 rfl ?_
    refine gh_iconst gd_Model_layWays_50 (gh_r0 rfl) ?_
    obtain ⟨q4172, h⟩ := h
    refine gh_isub gd_Model_layWays_51 q4172 ?_
    refine gh_name (fun v5' hn => ?_)
    have h := h v5' hn
    refine gh_istore (L2 := [(5, 0, v5'), (0, 2, 63), (1, 0, v1), (2, 0, v2), (3, 0, v3), (4, 0, v4)]) gd_Model_layWays_52 (by decide) rfl ?_
    refine gh_pick (L2 := [(0, 2, 63), (1, 0, v1), (2, 0, v2), (3, 0, v3), (4, 0, v4), (5, 0, v5')]) [1, 2, 3, 4, 5, 0] rfl ?_
    exact gh_M1_sound (T := fun v5 m => gh_T E (gh_yModel_layWays.cls, prog_14_method_93_code, 12, false, 9) (d + 3) 54 [(0, 2, 63), (1, 0, v1), (2, 0, v2), (3, 0, v3), (4, 0, v4), (5, 0, v5)] [] m (fun r m1 => gh_F m1 ∧ Q r m1)) (fun _ m => gh_F m) (fun K54 v5 m hK hF h => b_Model_layWays_54 d hK v5 m hF h) v5' m hF h
theorem s_Model_layWays {E : gh_E} {m : gh_M} {Q : Int → gh_M → Prop} (d : Nat) (v1 : Int) (v2 : Int) (v3 : Int) (v4 : Int) (hF : gh_F m) (h : w_Model_layWays v1 v2 v3 v4 m Q) : gh_C E gh_yModel_layWays prog_14_method_93_code 12 none 9 (d + 3) [(2, 63), (0, v1), (0, v2), (0, v3), (0, v4)] m (fun r m1 => gh_F m1 ∧ Q r m1) := by
  refine gh_enter2 (L := [(0, 2, 63), (1, 0, v1), (2, 0, v2), (3, 0, v3), (4, 0, v4)]) (by decide +kernel) gh_rt9 (Nat.le_of_ble_eq_true rfl) rfl rfl ?_
  unfold w_Model_layWays at h
  refine gh_iconst gd_Model_layWays_0 (gh_r0 rfl) ?_
  refine gh_istore (L2 := [(5, 0, 0), (0, 2, 63), (1, 0, v1), (2, 0, v2), (3, 0, v3), (4, 0, v4)]) gd_Model_layWays_1 (by decide) rfl ?_
  refine gh_pick (L2 := [(0, 2, 63), (1, 0, v1), (2, 0, v2), (3, 0, v3), (4, 0, v4), (5, 0, 0)]) [1, 2, 3, 4, 5, 0] rfl ?_
  exact gh_M1_sound (T := fun v5 m => gh_T E (gh_yModel_layWays.cls, prog_14_method_93_code, 12, false, 9) (d + 3) 3 [(0, 2, 63), (1, 0, v1), (2, 0, v2), (3, 0, v3), (4, 0, v4), (5, 0, v5)] [] m (fun r m1 => gh_F m1 ∧ Q r m1)) (fun _ m => gh_F m) (fun K3 v5 m hK hF h => b_Model_layWays_3 d hK v5 m hF h) 0 m hF h
def f_Model_countTrees_211 (v4 : Int) (v5 : Int) (v6 : Int) (v7 : Int) (v8 : Int) (v9 : Int) (J294 : gh_M → Prop) (K211 : Int → Int → gh_M → Prop) (v11 : Int) (v13 : Int) (m : gh_M) : Prop := 0 ≤ v6 ∧ v6 < 8 ∧ 0 ≤ v6 ∧ v6 < 8 ∧ gh_i ((m 77 v6) + (m 78 v6)) ∧ ∃ J275 : Int → gh_M → Prop, (∀ (v11' : Int) (m : gh_M), J275 v11' m → 0 ≤ v5 ∧ v5 < 165888 ∧ gh_i ((m 63 66) - 1) ∧ J294 (gh_u (gh_u m 105 v5 v11') 63 66 ((m 63 66) - 1))) ∧ (((v13 < ((m 77 v6) + (m 78 v6))) → (0 ≤ v5 ∧ v5 < 165888))) ∧ ((((v13 < ((m 77 v6) + (m 78 v6))) ∧ ((m 105 v5) < 0)) → w_Model_layWays v13 v7 v8 v9 m (fun _ m4240 => 0 ≤ v7 ∧ v7 < 45 ∧ k_Model_plus v11 (m4240 108 v7) ∧ ∀ v11' : Int, v11' = x_Model_plus v11 (m4240 108 v7) → gh_i (v13 + 1) ∧ K211 v11' (v13 + 1) m4240)) ∧ (¬ ((v13 < ((m 77 v6) + (m 78 v6))) ∧ ((m 105 v5) < 0)) → J275 v11 m))
def f_Model_countTrees_72 (v4 : Int) (Q : Int → gh_M → Prop) (K72 : gh_M → Prop) (m : gh_M) : Prop := (((m 63 66) ≤ 0 → 0 ≤ v4 ∧ v4 < 165888 ∧ Q (m 105 v4) m) ∧ (¬ ((m 63 66) ≤ 0) → gh_i ((m 63 66) - 1) ∧ 0 ≤ (m 63 66) - 1 ∧ ((m 63 66) - 1) < 60000 ∧ ∀ v5 : Int, v5 = m 107 ((m 63 66) - 1) → 0 ≤ v5 ∧ ∀ v6 : Int, v6 = v5 / 20736 → 0 ≤ v5 ∧ 0 ≤ v5 / 256 ∧ 0 ≤ (v5 / 256) % 81 ∧ ∀ v7 : Int, v7 = ((v5 / 256) % 81) / 9 → 0 ≤ v5 ∧ 0 ≤ v5 / 256 ∧ ∀ v8 : Int, v8 = (v5 / 256) % 9 → 0 ≤ v5 ∧ ∀ v9 : Int, v9 = gh_ior_f (v5 % 256) (gh_ishl_f 1 v6) → ∀ v10 : Int, v10 = m 63 66 → 0 ≤ v5 ∧ v5 < 165888 ∧ ∃ J168 : gh_M → Prop, (∀ (m : gh_M), J168 m → ∃ J294 : gh_M → Prop, (∀ (m : gh_M), J294 m → K72 m) ∧ (((m 63 66) = v10 → 0 ≤ v5 ∧ v5 < 165888 ∧ ((¬ ((m 105 v5) < 0) → (0 ≤ v5 ∧ v5 < 165888))) ∧ ∀ v11 : Int, v11 = (if (m 105 v5) < 0 then 0 else (m 105 v5)) → 0 ≤ v6 ∧ v6 < 8 ∧ ∀ v13 : Int, v13 = m 77 v6 → gh_M2 (fun K211 v11 v13 m => f_Model_countTrees_211 v4 v5 v6 v7 v8 v9 J294 K211 v11 v13 m) v11 v13 m) ∧ (¬ ((m 63 66) = v10) → J294 m))) ∧ (((m 105 v5) < 0 → w_Model_wantFor v6 v7 v8 v9 m (fun _ m4250 => J168 m4250)) ∧ (¬ ((m 105 v5) < 0) → J168 m))))
def f_Model_countTrees_19 (v1 : Int) (v2 : Int) (v3 : Int) (J42 : gh_M → Prop) (K19 : Int → gh_M → Prop) (v4 : Int) (m : gh_M) : Prop := ((v4 < 165888 → 0 ≤ v4 ∧ v4 < 165888 ∧ gh_i (v4 + 1) ∧ K19 (v4 + 1) (gh_u m 105 v4 (-1))) ∧ (¬ (v4 < 165888) → J42 m))
def w_Model_countTrees (v1 : Int) (v2 : Int) (v3 : Int) (m : gh_M) (Q : Int → gh_M → Prop) : Prop := w_Model_lay m (fun _ m4198 => ∃ J42 : gh_M → Prop, (∀ (m : gh_M), J42 m → (gh_i (81 * v1) ∧ ((v2 = v3) → (gh_i ((81 * v1) + 0) ∧ gh_i (256 * ((81 * v1) + 0)) ∧ gh_i ((256 * ((81 * v1) + 0)) + 0))) ∧ (¬ (v2 = v3) → (gh_i (9 * v2) ∧ gh_i ((9 * v2) + v3) ∧ gh_i ((81 * v1) + ((9 * v2) + v3)) ∧ gh_i (256 * ((81 * v1) + ((9 * v2) + v3))) ∧ gh_i ((256 * ((81 * v1) + ((9 * v2) + v3))) + 0)))) ∧ ∀ v4 : Int, v4 = (if v2 = v3 then ((256 * ((81 * v1) + 0)) + 0) else ((256 * ((81 * v1) + ((9 * v2) + v3))) + 0)) → gh_i ((m 63 64) + 1) ∧ w_Model_want v4 (gh_u (gh_u m 63 66 0) 63 64 ((m 63 64) + 1)) (fun _ m4202 => gh_M0 (fun K72 m => f_Model_countTrees_72 v4 Q K72 m) m4202)) ∧ (((m4198 63 61) = 0 → gh_M1 (fun K19 v4 m => f_Model_countTrees_19 v1 v2 v3 J42 K19 v4 m) 0 (gh_u m4198 63 61 1)) ∧ (¬ ((m4198 63 61) = 0) → J42 m4198)))
theorem b_Model_countTrees_211 {E : gh_E} {v4 : Int} {v5 : Int} {v6 : Int} {v7 : Int} {v8 : Int} {v9 : Int} {J294 : gh_M → Prop} {Q : Int → gh_M → Prop} {K211 : Int → Int → gh_M → Prop} (d : Nat) (hJ294 : ∀ (m : gh_M), gh_F m → J294 m → gh_T E (gh_yModel_countTrees.cls, prog_14_method_96_code, 14, false, 1) (d + 4) 294 [(0, 2, 63), (4, 0, v4)] [] m (fun r m1 => gh_F m1 ∧ Q r m1)) (hK : ∀ (v11 : Int) (v13 : Int) (m : gh_M), gh_F m → K211 v11 v13 m → gh_T E (gh_yModel_countTrees.cls, prog_14_method_96_code, 14, false, 1) (d + 4) 211 [(0, 2, 63), (4, 0, v4), (5, 0, v5), (6, 0, v6), (7, 0, v7), (8, 0, v8), (9, 0, v9), (11, 1, v11), (13, 0, v13)] [] m (fun r m1 => gh_F m1 ∧ Q r m1)) (v11 : Int) (v13 : Int) (m : gh_M) (hF : gh_F m) (h : f_Model_countTrees_211 v4 v5 v6 v7 v8 v9 J294 K211 v11 v13 m) : gh_T E (gh_yModel_countTrees.cls, prog_14_method_96_code, 14, false, 1) (d + 4) 211 [(0, 2, 63), (4, 0, v4), (5, 0, v5), (6, 0, v6), (7, 0, v7), (8, 0, v8), (9, 0, v9), (11, 1, v11), (13, 0, v13)] [] m (fun r m1 => gh_F m1 ∧ Q r m1) := by
  have hK211 := hK
  unfold f_Model_countTrees_211 at h
  refine gh_iload gd_Model_countTrees_211 8 rfl ?_
  refine gh_aload_n gd_Model_countTrees_213 0 rfl (by decide) ?_
  refine gf_63_30 gd_Model_countTrees_214 gh_k1400 hF ?_
  refine gh_iload gd_Model_countTrees_217 3 rfl ?_
  obtain ⟨q4227, h⟩ := h
  obtain ⟨q4228, h⟩ := h
  refine la_77 gd_Model_countTrees_219 hF q4227 q4228 rfl ?_
  refine gh_aload_n gd_Model_countTrees_220 0 rfl (by decide) ?_
  refine gf_63_31 gd_Model_countTrees_221 gh_k1401 hF ?_
  refine gh_iload gd_Model_countTrees_224 3 rfl ?_
  obtain ⟨q4229, h⟩ := h
  obtain ⟨q4230, h⟩ := h
  refine la_78 gd_Model_countTrees_226 hF q4229 q4230 rfl ?_
  obtain ⟨q4231, h⟩ := h
  refine gh_iadd gd_Model_countTrees_227 q4231 ?_
  obtain ⟨J275, hJ275, h⟩ := h
  have hJ275 : ∀ (v11' : Int) (m : gh_M), gh_F m → J275 v11' m → gh_T E (gh_yModel_countTrees.cls, prog_14_method_96_code, 14, false, 1) (d + 4) 275 [(0, 2, 63), (4, 0, v4), (5, 0, v5), (11, 1, v11')] [] m (fun r m1 => gh_F m1 ∧ Q r m1) := by
    intro v11' m hF hj
    have h := hJ275 v11' m hj
    refine gh_aload_n gd_Model_countTrees_275 0 rfl (by decide) ?_
    refine gf_63_62 gd_Model_countTrees_276 gh_k1432 hF ?_
    refine gh_iload gd_Model_countTrees_279 2 rfl ?_
    refine gh_lload gd_Model_countTrees_281 3 rfl ?_
    obtain ⟨q4232, h⟩ := h
    obtain ⟨q4233, h⟩ := h
    refine sa_105 gd_Model_countTrees_283 hF q4232 q4233 (fun hF => ?_)
    refine gh_aload_n gd_Model_countTrees_284 0 rfl (by decide) ?_
    refine gh_dup gd_Model_countTrees_285 (by decide) ?_
    refine gf_63_66 gd_Model_countTrees_286 gh_k1436 hF (gh_u_a (by decide)) ?_
    refine gh_iconst gd_Model_countTrees_289 (gh_r0 rfl) ?_
    obtain ⟨q4234, h⟩ := h
    refine gh_isub gd_Model_countTrees_290 q4234 ?_
    refine pf_63_66 gd_Model_countTrees_291 gh_k1436 hF (fun hF => ?_)
    refine gh_pick (L2 := [(0, 2, 63), (4, 0, v4)]) [0, 1] rfl ?_
    exact hJ294 (gh_u (gh_u m 105 v5 v11') 63 66 ((m 63 66) - 1)) hF h
  obtain ⟨hk, hA, hB⟩ := h
  have k4237 : ((v13 < ((m 77 v6) + (m 78 v6))) ∧ ((m 105 v5) < 0)) → gh_T E (gh_yModel_countTrees.cls, prog_14_method_96_code, 14, false, 1) (d + 4) 243 [(0, 2, 63), (4, 0, v4), (5, 0, v5), (6, 0, v6), (7, 0, v7), (8, 0, v8), (9, 0, v9), (11, 1, v11), (13, 0, v13)] [] m (fun r m1 => gh_F m1 ∧ Q r m1) := by
    intro c
    have h := hA c
    refine gh_aload_n gd_Model_countTrees_243 0 rfl (by decide) ?_
    refine gh_iload gd_Model_countTrees_244 8 rfl ?_
    refine gh_iload gd_Model_countTrees_246 4 rfl ?_
    refine gh_iload gd_Model_countTrees_248 5 rfl ?_
    refine gh_iload gd_Model_countTrees_250 6 rfl ?_
    refine cv_Model_layWays (d := d + 3) gd_Model_countTrees_252 gh_k1992 hF (Nat.le_of_ble_eq_true rfl) (gh_C.mono (s_Model_layWays d v13 v7 v8 v9 hF h) (fun r4239 m4240 hq => ?_))
    obtain ⟨hF, h⟩ := hq
    refine gh_lload gd_Model_countTrees_255 7 rfl ?_
    refine gh_aload_n gd_Model_countTrees_257 0 rfl (by decide) ?_
    refine gf_63_67 gd_Model_countTrees_258 gh_k1437 hF ?_
    refine gh_iload gd_Model_countTrees_261 4 rfl ?_
    obtain ⟨q4241, h⟩ := h
    obtain ⟨q4242, h⟩ := h
    refine la_108 gd_Model_countTrees_263 hF q4241 q4242 rfl ?_
    obtain ⟨q4243, h⟩ := h
    refine cv_Model_plus (d := d + 3) gd_Model_countTrees_264 gh_k2005 (Nat.le_of_ble_eq_true rfl) (gh_C.pe (e_Model_plus (d + 3) v11 (m4240 108 v7) q4243) ?_)
    refine gh_name (fun v11' hn => ?_)
    have h := h v11' hn
    refine gh_lstore (L2 := [(11, 1, v11'), (0, 2, 63), (4, 0, v4), (5, 0, v5), (6, 0, v6), (7, 0, v7), (8, 0, v8), (9, 0, v9), (13, 0, v13)]) gd_Model_countTrees_267 (by decide) rfl ?_
    obtain ⟨q4244, h⟩ := h
    refine gh_iinc (L2 := [(13, 0, v13 + 1), (11, 1, v11'), (0, 2, 63), (4, 0, v4), (5, 0, v5), (6, 0, v6), (7, 0, v7), (8, 0, v8), (9, 0, v9)]) gd_Model_countTrees_269 8 rfl q4244 (by decide) rfl ?_
    refine gh_goto (tgt := 211) gd_Model_countTrees_272 (by decide) ?_
    refine gh_pick (L2 := [(0, 2, 63), (4, 0, v4), (5, 0, v5), (6, 0, v6), (7, 0, v7), (8, 0, v8), (9, 0, v9), (11, 1, v11'), (13, 0, v13 + 1)]) [2, 3, 4, 5, 6, 7, 8, 1, 0] rfl ?_
    exact hK211 v11' (v13 + 1) m4240 hF h
  have k4238 : ¬ ((v13 < ((m 77 v6) + (m 78 v6))) ∧ ((m 105 v5) < 0)) → gh_T E (gh_yModel_countTrees.cls, prog_14_method_96_code, 14, false, 1) (d + 4) 275 [(0, 2, 63), (4, 0, v4), (5, 0, v5), (6, 0, v6), (7, 0, v7), (8, 0, v8), (9, 0, v9), (11, 1, v11), (13, 0, v13)] [] m (fun r m1 => gh_F m1 ∧ Q r m1) := by
    intro c
    have h := hB c
    refine gh_pick (L2 := [(0, 2, 63), (4, 0, v4), (5, 0, v5), (11, 1, v11)]) [0, 1, 2, 7] rfl ?_
    exact hJ275 v11 m hF h
  refine gh_jge (tgt := 275) gd_Model_countTrees_228 (by decide) (fun c4245 => ?_) (fun c4245 => ?_)
  · have hz : True := trivial
    have hk := hk c4245
    refine gh_aload_n gd_Model_countTrees_231 0 rfl (by decide) ?_
    refine gf_63_62 gd_Model_countTrees_232 gh_k1432 hF ?_
    refine gh_iload gd_Model_countTrees_235 2 rfl ?_
    obtain ⟨q4235, hk⟩ := hk
    have q4236 := hk
    refine la_105 gd_Model_countTrees_237 hF q4235 q4236 rfl ?_
    refine gh_lconst (n := 0) gd_Model_countTrees_238 (by decide) (gh_r1 rfl) ?_
    refine gh_lcmp gd_Model_countTrees_239 ?_
    refine gh_cge (tgt := 275) gd_Model_countTrees_240 (by decide) (fun c4246 => ?_) (fun c4246 => ?_)
    · have hz : True := trivial
      exact k4237 ⟨c4245, c4246⟩
    · have hz : True := trivial
      exact k4238 (fun z => c4246 z.2)
  · have hz : True := trivial
    exact k4238 (fun z => c4245 z.1)
theorem b_Model_countTrees_72 {E : gh_E} {v4 : Int} {Q : Int → gh_M → Prop} {K72 : gh_M → Prop} (d : Nat) (hK : ∀ (m : gh_M), gh_F m → K72 m → gh_T E (gh_yModel_countTrees.cls, prog_14_method_96_code, 14, false, 1) (d + 4) 72 [(0, 2, 63), (4, 0, v4)] [] m (fun r m1 => gh_F m1 ∧ Q r m1)) (m : gh_M) (hF : gh_F m) (h : f_Model_countTrees_72 v4 Q K72 m) : gh_T E (gh_yModel_countTrees.cls, prog_14_method_96_code, 14, false, 1) (d + 4) 72 [(0, 2, 63), (4, 0, v4)] [] m (fun r m1 => gh_F m1 ∧ Q r m1) := by
  have hK72 := hK
  unfold f_Model_countTrees_72 at h
  refine gh_aload_n gd_Model_countTrees_72 0 rfl (by decide) ?_
  refine gf_63_66 gd_Model_countTrees_73 gh_k1436 hF rfl ?_
  obtain ⟨hA, hB⟩ := h
  refine gh_zle (tgt := 297) gd_Model_countTrees_76 (by decide) (fun c4203 => ?_) (fun c4203 => ?_)
  · have h := hA c4203
    refine gh_aload_n gd_Model_countTrees_297 0 rfl (by decide) ?_
    refine gf_63_62 gd_Model_countTrees_298 gh_k1432 hF ?_
    refine gh_iload gd_Model_countTrees_301 1 rfl ?_
    obtain ⟨q4204, h⟩ := h
    obtain ⟨q4205, h⟩ := h
    refine la_105 gd_Model_countTrees_303 hF q4204 q4205 rfl ?_
    exact gh_ret1 rfl gd_Model_countTrees_304 ⟨hF, h⟩
  · have h := hB c4203
    refine gh_aload_n gd_Model_countTrees_79 0 rfl (by decide) ?_
    refine gf_63_65 gd_Model_countTrees_80 gh_k1435 hF ?_
    refine gh_aload_n gd_Model_countTrees_83 0 rfl (by decide) ?_
    refine gf_63_66 gd_Model_countTrees_84 gh_k1436 hF rfl ?_
    refine gh_iconst gd_Model_countTrees_87 (gh_r0 rfl) ?_
    obtain ⟨q4206, h⟩ := h
    refine gh_isub gd_Model_countTrees_88 q4206 ?_
    obtain ⟨q4207, h⟩ := h
    obtain ⟨q4208, h⟩ := h
    refine la_107 gd_Model_countTrees_89 hF q4207 q4208 rfl ?_
    refine gh_name (fun v5 hn => ?_)
    have h := h v5 hn
    refine gh_istore (L2 := [(5, 0, v5), (0, 2, 63), (4, 0, v4)]) gd_Model_countTrees_90 (by decide) rfl ?_
    refine gh_iload gd_Model_countTrees_92 0 rfl ?_
    refine gh_sipush gd_Model_countTrees_94 (by decide) (gh_r0 rfl) ?_
    obtain ⟨q4209, h⟩ := h
    refine gh_idiv gd_Model_countTrees_97 q4209 (by decide) ?_
    refine gh_name (fun v6 hn => ?_)
    have h := h v6 hn
    refine gh_istore (L2 := [(6, 0, v6), (5, 0, v5), (0, 2, 63), (4, 0, v4)]) gd_Model_countTrees_98 (by decide) rfl ?_
    refine gh_iload gd_Model_countTrees_100 1 rfl ?_
    refine gh_sipush gd_Model_countTrees_102 (by decide) (gh_r0 rfl) ?_
    obtain ⟨q4210, h⟩ := h
    refine gh_idiv gd_Model_countTrees_105 q4210 (by decide) ?_
    refine gh_bipush gd_Model_countTrees_106 (by decide) (gh_r0 rfl) ?_
    obtain ⟨q4211, h⟩ := h
    refine gh_irem gd_Model_countTrees_108 q4211 (by decide) ?_
    refine gh_bipush gd_Model_countTrees_109 (by decide) (gh_r0 rfl) ?_
    obtain ⟨q4212, h⟩ := h
    refine gh_idiv gd_Model_countTrees_111 q4212 (by decide) ?_
    refine gh_name (fun v7 hn => ?_)
    have h := h v7 hn
    refine gh_istore (L2 := [(7, 0, v7), (6, 0, v6), (5, 0, v5), (0, 2, 63), (4, 0, v4)]) gd_Model_countTrees_112 (by decide) rfl ?_
    refine gh_iload gd_Model_countTrees_114 2 rfl ?_
    refine gh_sipush gd_Model_countTrees_116 (by decide) (gh_r0 rfl) ?_
    obtain ⟨q4213, h⟩ := h
    refine gh_idiv gd_Model_countTrees_119 q4213 (by decide) ?_
    refine gh_bipush gd_Model_countTrees_120 (by decide) (gh_r0 rfl) ?_
    obtain ⟨q4214, h⟩ := h
    refine gh_irem gd_Model_countTrees_122 q4214 (by decide) ?_
    refine gh_name (fun v8 hn => ?_)
    have h := h v8 hn
    refine gh_istore (L2 := [(8, 0, v8), (7, 0, v7), (6, 0, v6), (5, 0, v5), (0, 2, 63), (4, 0, v4)]) gd_Model_countTrees_123 (by decide) rfl ?_
    refine gh_iload gd_Model_countTrees_125 3 rfl ?_
    refine gh_sipush gd_Model_countTrees_127 (by decide) (gh_r0 rfl) ?_
    obtain ⟨q4215, h⟩ := h
    refine gh_irem gd_Model_countTrees_130 q4215 (by decide) ?_
    refine gh_iconst gd_Model_countTrees_131 (gh_r0 rfl) ?_
    refine gh_iload gd_Model_countTrees_132 2 rfl ?_
    refine gh_ishl gd_Model_countTrees_134 ?_
    refine gh_ior gd_Model_countTrees_135 ?_
    refine gh_name (fun v9 hn => ?_)
    have h := h v9 hn
    refine gh_istore (L2 := [(9, 0, v9), (8, 0, v8), (7, 0, v7), (6, 0, v6), (5, 0, v5), (0, 2, 63), (4, 0, v4)]) gd_Model_countTrees_136 (by decide) rfl ?_
    refine gh_aload_n gd_Model_countTrees_138 5 rfl (by decide) ?_
    refine gf_63_66 gd_Model_countTrees_139 gh_k1436 hF rfl ?_
    refine gh_name (fun v10 hn => ?_)
    have h := h v10 hn
    refine gh_istore (L2 := [(10, 0, v10), (9, 0, v9), (8, 0, v8), (7, 0, v7), (6, 0, v6), (5, 0, v5), (0, 2, 63), (4, 0, v4)]) gd_Model_countTrees_142 (by decide) rfl ?_
    refine gh_aload_n gd_Model_countTrees_144 6 rfl (by decide) ?_
    refine gf_63_62 gd_Model_countTrees_145 gh_k1432 hF ?_
    refine gh_iload gd_Model_countTrees_148 5 rfl ?_
    obtain ⟨q4216, h⟩ := h
    obtain ⟨q4217, h⟩ := h
    refine la_105 gd_Model_countTrees_150 hF q4216 q4217 rfl ?_
    refine gh_lconst (n := 0) gd_Model_countTrees_151 (by decide) (gh_r1 rfl) ?_
    refine gh_lcmp gd_Model_countTrees_152 ?_
    obtain ⟨J168, hJ168, h⟩ := h
    have hJ168 : ∀ (m : gh_M), gh_F m → J168 m → gh_T E (gh_yModel_countTrees.cls, prog_14_method_96_code, 14, false, 1) (d + 4) 168 [(0, 2, 63), (4, 0, v4), (5, 0, v5), (6, 0, v6), (7, 0, v7), (8, 0, v8), (9, 0, v9), (10, 0, v10)] [] m (fun r m1 => gh_F m1 ∧ Q r m1) := by
      intro m hF hj
      have h := hJ168 m hj
      refine gh_aload_n gd_Model_countTrees_168 0 rfl (by decide) ?_
      refine gf_63_66 gd_Model_countTrees_169 gh_k1436 hF rfl ?_
      refine gh_iload gd_Model_countTrees_172 7 rfl ?_
      obtain ⟨J294, hJ294, h⟩ := h
      have hJ294 : ∀ (m : gh_M), gh_F m → J294 m → gh_T E (gh_yModel_countTrees.cls, prog_14_method_96_code, 14, false, 1) (d + 4) 294 [(0, 2, 63), (4, 0, v4)] [] m (fun r m1 => gh_F m1 ∧ Q r m1) := by
        intro m hF hj
        have h := hJ294 m hj
        refine gh_goto (tgt := 72) gd_Model_countTrees_294 (by decide) ?_
        exact hK72 m hF h
      obtain ⟨hA, hB⟩ := h
      refine gh_jne (tgt := 294) gd_Model_countTrees_174 (by decide) (fun c4218 => ?_) (fun c4218 => ?_)
      · have h := hA c4218
        refine gh_aload_n gd_Model_countTrees_177 0 rfl (by decide) ?_
        refine gf_63_62 gd_Model_countTrees_178 gh_k1432 hF ?_
        refine gh_iload gd_Model_countTrees_181 2 rfl ?_
        obtain ⟨q4219, h⟩ := h
        obtain ⟨q4220, h⟩ := h
        refine la_105 gd_Model_countTrees_183 hF q4219 q4220 rfl ?_
        refine gh_lconst (n := 0) gd_Model_countTrees_184 (by decide) (gh_r1 rfl) ?_
        refine gh_lcmp gd_Model_countTrees_185 ?_
        obtain ⟨hk, h⟩ := h
        have k4223 : ∀ x4224 : Int, x4224 = (if (m 105 v5) < 0 then 0 else (m 105 v5)) → gh_T E (gh_yModel_countTrees.cls, prog_14_method_96_code, 14, false, 1) (d + 4) 200 [(0, 2, 63), (4, 0, v4), (5, 0, v5), (6, 0, v6), (7, 0, v7), (8, 0, v8), (9, 0, v9), (10, 0, v10)] [(1, x4224)] m (fun r m1 => gh_F m1 ∧ Q r m1) := by
          rintro _ rfl
          refine gh_name (fun v11 hn => ?_)
          have h := h v11 hn
          refine gh_lstore (L2 := [(11, 1, v11), (0, 2, 63), (4, 0, v4), (5, 0, v5), (6, 0, v6), (7, 0, v7), (8, 0, v8), (9, 0, v9), (10, 0, v10)]) gd_Model_countTrees_200 (by decide) rfl ?_
          refine gh_aload_n gd_Model_countTrees_202 1 rfl (by decide) ?_
          refine gf_63_30 gd_Model_countTrees_203 gh_k1400 hF ?_
          refine gh_iload gd_Model_countTrees_206 4 rfl ?_
          obtain ⟨q4225, h⟩ := h
          obtain ⟨q4226, h⟩ := h
          refine la_77 gd_Model_countTrees_208 hF q4225 q4226 rfl ?_
          refine gh_name (fun v13 hn => ?_)
          have h := h v13 hn
          refine gh_istore (L2 := [(13, 0, v13), (11, 1, v11), (0, 2, 63), (4, 0, v4), (5, 0, v5), (6, 0, v6), (7, 0, v7), (8, 0, v8), (9, 0, v9), (10, 0, v10)]) gd_Model_countTrees_209 (by decide) rfl ?_
          refine gh_pick (L2 := [(0, 2, 63), (4, 0, v4), (5, 0, v5), (6, 0, v6), (7, 0, v7), (8, 0, v8), (9, 0, v9), (11, 1, v11), (13, 0, v13)]) [2, 3, 4, 5, 6, 7, 8, 1, 0] rfl ?_
          exact gh_M2_sound (T := fun v11 v13 m => gh_T E (gh_yModel_countTrees.cls, prog_14_method_96_code, 14, false, 1) (d + 4) 211 [(0, 2, 63), (4, 0, v4), (5, 0, v5), (6, 0, v6), (7, 0, v7), (8, 0, v8), (9, 0, v9), (11, 1, v11), (13, 0, v13)] [] m (fun r m1 => gh_F m1 ∧ Q r m1)) (fun _ _ m => gh_F m) (fun K211 v11 v13 m hK hF h => b_Model_countTrees_211 d hJ294 hK v11 v13 m hF h) v11 v13 m hF h
        refine gh_cge (tgt := 193) gd_Model_countTrees_186 (by decide) (fun c4247 => ?_) (fun c4247 => ?_)
        · have hz : True := trivial
          refine gh_lconst (n := 0) gd_Model_countTrees_189 (by decide) (gh_r1 rfl) ?_
          refine gh_goto (tgt := 200) gd_Model_countTrees_190 (by decide) ?_
          exact k4223 _ (by rw [if_pos c4247])
        · have hz : True := trivial
          have hk := hk c4247
          refine gh_aload_n gd_Model_countTrees_193 0 rfl (by decide) ?_
          refine gf_63_62 gd_Model_countTrees_194 gh_k1432 hF ?_
          refine gh_iload gd_Model_countTrees_197 2 rfl ?_
          obtain ⟨q4221, hk⟩ := hk
          have q4222 := hk
          refine la_105 gd_Model_countTrees_199 hF q4221 q4222 rfl ?_
          exact k4223 _ (by rw [if_neg c4247])
      · have h := hB c4218
        refine gh_pick (L2 := [(0, 2, 63), (4, 0, v4)]) [0, 1] rfl ?_
        exact hJ294 m hF h
    obtain ⟨hA, hB⟩ := h
    refine gh_cge (tgt := 168) gd_Model_countTrees_153 (by decide) (fun c4248 => ?_) (fun c4248 => ?_)
    · have h := hA c4248
      refine gh_aload_n gd_Model_countTrees_156 6 rfl (by decide) ?_
      refine gh_iload gd_Model_countTrees_157 4 rfl ?_
      refine gh_iload gd_Model_countTrees_159 3 rfl ?_
      refine gh_iload gd_Model_countTrees_161 2 rfl ?_
      refine gh_iload gd_Model_countTrees_163 1 rfl ?_
      refine cv_Model_wantFor (d := d + 3) gd_Model_countTrees_165 gh_k1984 hF (Nat.le_of_ble_eq_true rfl) (gh_C.mono (s_Model_wantFor (d + 1) v6 v7 v8 v9 hF h) (fun r4249 m4250 hq => ?_))
      obtain ⟨hF, h⟩ := hq
      refine gh_pick (L2 := [(0, 2, 63), (4, 0, v4), (5, 0, v5), (6, 0, v6), (7, 0, v7), (8, 0, v8), (9, 0, v9), (10, 0, v10)]) [6, 7, 5, 4, 3, 2, 1, 0] rfl ?_
      exact hJ168 m4250 hF h
    · have h := hB c4248
      refine gh_pick (L2 := [(0, 2, 63), (4, 0, v4), (5, 0, v5), (6, 0, v6), (7, 0, v7), (8, 0, v8), (9, 0, v9), (10, 0, v10)]) [6, 7, 5, 4, 3, 2, 1, 0] rfl ?_
      exact hJ168 m hF h
theorem b_Model_countTrees_19 {E : gh_E} {v1 : Int} {v2 : Int} {v3 : Int} {J42 : gh_M → Prop} {Q : Int → gh_M → Prop} {K19 : Int → gh_M → Prop} (d : Nat) (hJ42 : ∀ (m : gh_M), gh_F m → J42 m → gh_T E (gh_yModel_countTrees.cls, prog_14_method_96_code, 14, false, 1) (d + 4) 42 [(0, 2, 63), (1, 0, v1), (2, 0, v2), (3, 0, v3)] [] m (fun r m1 => gh_F m1 ∧ Q r m1)) (hK : ∀ (v4 : Int) (m : gh_M), gh_F m → K19 v4 m → gh_T E (gh_yModel_countTrees.cls, prog_14_method_96_code, 14, false, 1) (d + 4) 19 [(0, 2, 63), (1, 0, v1), (2, 0, v2), (3, 0, v3), (4, 0, v4)] [] m (fun r m1 => gh_F m1 ∧ Q r m1)) (v4 : Int) (m : gh_M) (hF : gh_F m) (h : f_Model_countTrees_19 v1 v2 v3 J42 K19 v4 m) : gh_T E (gh_yModel_countTrees.cls, prog_14_method_96_code, 14, false, 1) (d + 4) 19 [(0, 2, 63), (1, 0, v1), (2, 0, v2), (3, 0, v3), (4, 0, v4)] [] m (fun r m1 => gh_F m1 ∧ Q r m1) := by
  have hK19 := hK
  unfold f_Model_countTrees_19 at h
  refine gh_iload gd_Model_countTrees_19 4 rfl ?_
  refine gh_ldc (n := 165888) gd_Model_countTrees_21 gh_k1368 (by decide) (gh_r0 rfl) ?_
  obtain ⟨hA, hB⟩ := h
  refine gh_jge (tgt := 42) gd_Model_countTrees_23 (by decide) (fun c4252 => ?_) (fun c4252 => ?_)
  · have h := hA c4252
    refine gh_aload_n gd_Model_countTrees_26 0 rfl (by decide) ?_
    refine gf_63_62 gd_Model_countTrees_27 gh_k1432 hF ?_
    refine gh_iload gd_Model_countTrees_30 4 rfl ?_
    refine gh_ldc2 (n := (-1)) gd_Model_countTrees_32 gh_k1976 (by decide) (gh_r1 rfl) ?_
    obtain ⟨q4253, h⟩ := h
    obtain ⟨q4254, h⟩ := h
    refine sa_105 gd_Model_countTrees_35 hF q4253 q4254 (fun hF => ?_)
    obtain ⟨q4255, h⟩ := h
    refine gh_iinc (L2 := [(4, 0, v4 + 1), (0, 2, 63), (1, 0, v1), (2, 0, v2), (3, 0, v3)]) gd_Model_countTrees_36 4 rfl q4255 (by decide) rfl ?_
    refine gh_goto (tgt := 19) gd_Model_countTrees_39 (by decide) ?_
    refine gh_pick (L2 := [(0, 2, 63), (1, 0, v1), (2, 0, v2), (3, 0, v3), (4, 0, v4 + 1)]) [1, 2, 3, 4, 0] rfl ?_
    exact hK19 (v4 + 1) (gh_u m 105 v4 (-1)) hF h
  · have h := hB c4252
    refine gh_pick (L2 := [(0, 2, 63), (1, 0, v1), (2, 0, v2), (3, 0, v3)]) [0, 1, 2, 3] rfl ?_
    exact hJ42 m hF h
theorem s_Model_countTrees {E : gh_E} {m : gh_M} {Q : Int → gh_M → Prop} (d : Nat) (v1 : Int) (v2 : Int) (v3 : Int) (hF : gh_F m) (h : w_Model_countTrees v1 v2 v3 m Q) : gh_C E gh_yModel_countTrees prog_14_method_96_code 14 (some .long) 1 (d + 4) [(2, 63), (0, v1), (0, v2), (0, v3)] m (fun r m1 => gh_F m1 ∧ Q r m1) := by
  refine gh_enter2 (L := [(0, 2, 63), (1, 0, v1), (2, 0, v2), (3, 0, v3)]) (by decide +kernel) gh_rt1 (Nat.le_of_ble_eq_true rfl) rfl rfl ?_
  unfold w_Model_countTrees at h
  refine gh_aload_n gd_Model_countTrees_0 0 rfl (by decide) ?_
  refine cv_Model_lay (d := d + 3) gd_Model_countTrees_1 gh_k1899 hF (Nat.le_of_ble_eq_true rfl) (gh_C.mono (s_Model_lay (d + 1) hF h) (fun r4197 m4198 hq => ?_))
  obtain ⟨hF, h⟩ := hq
  refine gh_aload_n gd_Model_countTrees_4 0 rfl (by decide) ?_
  refine gf_63_61 gd_Model_countTrees_5 gh_k1431 hF rfl ?_
  obtain ⟨J42, hJ42, h⟩ := h
  have hJ42 : ∀ (m : gh_M), gh_F m → J42 m → gh_T E (gh_yModel_countTrees.cls, prog_14_method_96_code, 14, false, 1) (d + 4) 42 [(0, 2, 63), (1, 0, v1), (2, 0, v2), (3, 0, v3)] [] m (fun r m1 => gh_F m1 ∧ Q r m1) := by
    intro m hF hj
    have h := hJ42 m hj
    refine gh_iload_n gd_Model_countTrees_42 1 rfl ?_
    refine gh_iload_n gd_Model_countTrees_43 2 rfl ?_
    refine gh_iload_n gd_Model_countTrees_44 3 rfl ?_
    refine gh_iconst gd_Model_countTrees_45 (gh_r0 rfl) ?_
    obtain ⟨q4199, h⟩ := h
    refine cv_Model_keyOf (d := d + 3) gd_Model_countTrees_46 gh_k1977 (Nat.le_of_ble_eq_true rfl) (gh_C.pe (e_Model_keyOf (d + 3) v1 v2 v3 0 q4199) ?_)
    refine gh_name (fun v4 hn => ?_)
    have h := h v4 hn
    refine gh_istore (L2 := [(4, 0, v4), (0, 2, 63), (1, 0, v1), (2, 0, v2), (3, 0, v3)]) gd_Model_countTrees_49 (by decide) rfl ?_
    refine gh_aload_n gd_Model_countTrees_51 1 rfl (by decide) ?_
    refine gh_iconst gd_Model_countTrees_52 (gh_r0 rfl) ?_
    refine pf_63_66 gd_Model_countTrees_53 gh_k1436 hF (fun hF => ?_)
    refine gh_aload_n gd_Model_countTrees_56 1 rfl (by decide) ?_
    refine gh_dup gd_Model_countTrees_57 (by decide) ?_
    refine gf_63_64 gd_Model_countTrees_58 gh_k1434 hF (gh_u_i (by decide)) ?_
    refine gh_iconst gd_Model_countTrees_61 (gh_r0 rfl) ?_
    obtain ⟨q4200, h⟩ := h
    refine gh_iadd gd_Model_countTrees_62 q4200 ?_
    refine pf_63_64 gd_Model_countTrees_63 gh_k1434 hF (fun hF => ?_)
    refine gh_aload_n gd_Model_countTrees_66 1 rfl (by decide) ?_
    refine gh_iload gd_Model_countTrees_67 0 rfl ?_
    refine cv_Model_want (d := d + 3) gd_Model_countTrees_69 gh_k1980 hF (Nat.le_of_ble_eq_true rfl) (gh_C.mono (s_Model_want (d + 3) v4 hF h) (fun r4201 m4202 hq => ?_))
    obtain ⟨hF, h⟩ := hq
    refine gh_pick (L2 := [(0, 2, 63), (4, 0, v4)]) [1, 0] rfl ?_
    exact gh_M0_sound (T := fun m => gh_T E (gh_yModel_countTrees.cls, prog_14_method_96_code, 14, false, 1) (d + 4) 72 [(0, 2, 63), (4, 0, v4)] [] m (fun r m1 => gh_F m1 ∧ Q r m1)) (fun m => gh_F m) (fun K72 m hK hF h => b_Model_countTrees_72 d hK m hF h) m4202 hF h
  obtain ⟨hA, hB⟩ := h
  refine gh_zne (tgt := 42) gd_Model_countTrees_8 (by decide) (fun c4251 => ?_) (fun c4251 => ?_)
  · have h := hA c4251
    refine gh_aload_n gd_Model_countTrees_11 0 rfl (by decide) ?_
    refine gh_iconst gd_Model_countTrees_12 (gh_r0 rfl) ?_
    refine pf_63_61 gd_Model_countTrees_13 gh_k1431 hF (by decide) (fun hF => ?_)
    refine gh_iconst gd_Model_countTrees_16 (gh_r0 rfl) ?_
    refine gh_istore (L2 := [(4, 0, 0), (0, 2, 63), (1, 0, v1), (2, 0, v2), (3, 0, v3)]) gd_Model_countTrees_17 (by decide) rfl ?_
    refine gh_pick (L2 := [(0, 2, 63), (1, 0, v1), (2, 0, v2), (3, 0, v3), (4, 0, 0)]) [1, 2, 3, 4, 0] rfl ?_
    exact gh_M1_sound (T := fun v4 m => gh_T E (gh_yModel_countTrees.cls, prog_14_method_96_code, 14, false, 1) (d + 4) 19 [(0, 2, 63), (1, 0, v1), (2, 0, v2), (3, 0, v3), (4, 0, v4)] [] m (fun r m1 => gh_F m1 ∧ Q r m1)) (fun _ m => gh_F m) (fun K19 v4 m hK hF h => b_Model_countTrees_19 d hJ42 hK v4 m hF h) 0 (gh_u m4198 63 61 1) hF h
  · have h := hB c4251
    exact hJ42 m4198 hF h
def w_Model_trees (v1 : Int) (v2 : Int) (v3 : Int) (m : gh_M) (Q : Int → gh_M → Prop) : Prop := ∃ J35 : Prop, (J35 → ((v2 ≤ v3 → (((m 63 24) = 0 → Q (-1003) m) ∧ (¬ ((m 63 24) = 0) → w_Model_countTrees v1 v2 v3 m (fun r4258 m4259 => Q (if r4258 ≤ 999999999999999999 then r4258 else (-2)) m4259)))) ∧ (¬ (v2 ≤ v3) → Q (-1002) m))) ∧ ((¬ ((m 63 24) = 0) → (k_Model_isName v1 m))) ∧ (((((m 63 24) = 0) ∨ ((p_Model_isName v1 m) ∧ ((p_Model_isPlace v2 m) ∧ (p_Model_isPlace v3 m)))) → J35) ∧ (¬ (((m 63 24) = 0) ∨ ((p_Model_isName v1 m) ∧ ((p_Model_isPlace v2 m) ∧ (p_Model_isPlace v3 m)))) → Q (-1001) m))
theorem s_Model_trees {E : gh_E} {m : gh_M} {Q : Int → gh_M → Prop} (d : Nat) (v1 : Int) (v2 : Int) (v3 : Int) (hF : gh_F m) (h : w_Model_trees v1 v2 v3 m Q) : gh_C E gh_yModel_trees prog_14_method_97_code 6 (some .long) 1 (d + 5) [(2, 63), (0, v1), (0, v2), (0, v3)] m (fun r m1 => gh_F m1 ∧ Q r m1) := by
  refine gh_enter2 (L := [(0, 2, 63), (1, 0, v1), (2, 0, v2), (3, 0, v3)]) (by decide +kernel) gh_rt1 (Nat.le_of_ble_eq_true rfl) rfl rfl ?_
  unfold w_Model_trees at h
  refine gh_aload_n gd_Model_trees_0 0 rfl (by decide) ?_
  refine gf_63_24 gd_Model_trees_1 gh_k1394 hF rfl ?_
  obtain ⟨J35, hJ35, h⟩ := h
  have hJ35 : gh_F m → J35 → gh_T E (gh_yModel_trees.cls, prog_14_method_97_code, 6, false, 1) (d + 5) 35 [(0, 2, 63), (1, 0, v1), (2, 0, v2), (3, 0, v3)] [] m (fun r m1 => gh_F m1 ∧ Q r m1) := by
    intro hF hj
    have h := hJ35 hj
    refine gh_iload_n gd_Model_trees_35 2 rfl ?_
    refine gh_iload_n gd_Model_trees_36 3 rfl ?_
    obtain ⟨hA, hB⟩ := h
    refine gh_jle (tgt := 44) gd_Model_trees_37 (by decide) (fun c4256 => ?_) (fun c4256 => ?_)
    · have h := hA c4256
      refine gh_aload_n gd_Model_trees_44 0 rfl (by decide) ?_
      refine gf_63_24 gd_Model_trees_45 gh_k1394 hF rfl ?_
      obtain ⟨hA, hB⟩ := h
      refine gh_zne (tgt := 55) gd_Model_trees_48 (by decide) (fun c4257 => ?_) (fun c4257 => ?_)
      · have h := hA c4257
        refine gh_ldc2 (n := (-1003)) gd_Model_trees_51 gh_k1971 (by decide) (gh_r1 rfl) ?_
        exact gh_ret1 rfl gd_Model_trees_54 ⟨hF, h⟩
      · have h := hB c4257
        refine gh_aload_n gd_Model_trees_55 0 rfl (by decide) ?_
        refine gh_iload_n gd_Model_trees_56 1 rfl ?_
        refine gh_iload_n gd_Model_trees_57 2 rfl ?_
        refine gh_iload_n gd_Model_trees_58 3 rfl ?_
        refine cv_Model_countTrees (d := d + 4) gd_Model_trees_59 gh_k1972 hF (Nat.le_of_ble_eq_true rfl) (gh_C.mono (s_Model_countTrees d v1 v2 v3 hF h) (fun r4258 m4259 hq => ?_))
        obtain ⟨hF, h⟩ := hq
        refine gh_lstore (L2 := [(4, 1, r4258), (0, 2, 63), (1, 0, v1), (2, 0, v2), (3, 0, v3)]) gd_Model_trees_62 (by decide) rfl ?_
        refine gh_lload gd_Model_trees_64 0 rfl ?_
        refine gh_ldc2 (n := 999999999999999999) gd_Model_trees_66 gh_k2003 (by decide) (gh_r1 rfl) ?_
        refine gh_lcmp gd_Model_trees_69 ?_
        have k4260 : ∀ x4261 : Int, x4261 = (if r4258 ≤ 999999999999999999 then r4258 else (-2)) → gh_T E (gh_yModel_trees.cls, prog_14_method_97_code, 6, false, 1) (d + 5) 81 [(4, 1, r4258), (0, 2, 63), (1, 0, v1), (2, 0, v2), (3, 0, v3)] [(1, x4261)] m4259 (fun r m1 => gh_F m1 ∧ Q r m1) := by
          rintro _ rfl
          exact gh_ret1 rfl gd_Model_trees_81 ⟨hF, h⟩
        refine gh_cle (tgt := 79) gd_Model_trees_70 (by decide) (fun c4262 => ?_) (fun c4262 => ?_)
        · have hz : True := trivial
          refine gh_lload gd_Model_trees_79 0 rfl ?_
          exact k4260 _ (by rw [if_pos c4262])
        · have hz : True := trivial
          refine gh_ldc2 (n := (-2)) gd_Model_trees_73 gh_k2008 (by decide) (gh_r1 rfl) ?_
          refine gh_goto (tgt := 81) gd_Model_trees_76 (by decide) ?_
          exact k4260 _ (by rw [if_neg c4262])
    · have h := hB c4256
      refine gh_ldc2 (n := (-1002)) gd_Model_trees_40 gh_k1970 (by decide) (gh_r1 rfl) ?_
      exact gh_ret1 rfl gd_Model_trees_43 ⟨hF, h⟩
  obtain ⟨hk, hA, hB⟩ := h
  have k4264 : (((m 63 24) = 0) ∨ ((p_Model_isName v1 m) ∧ ((p_Model_isPlace v2 m) ∧ (p_Model_isPlace v3 m)))) → gh_T E (gh_yModel_trees.cls, prog_14_method_97_code, 6, false, 1) (d + 5) 35 [(0, 2, 63), (1, 0, v1), (2, 0, v2), (3, 0, v3)] [] m (fun r m1 => gh_F m1 ∧ Q r m1) := by
    intro c
    have h := hA c
    exact hJ35 hF h
  have k4265 : ¬ (((m 63 24) = 0) ∨ ((p_Model_isName v1 m) ∧ ((p_Model_isPlace v2 m) ∧ (p_Model_isPlace v3 m)))) → gh_T E (gh_yModel_trees.cls, prog_14_method_97_code, 6, false, 1) (d + 5) 31 [(0, 2, 63), (1, 0, v1), (2, 0, v2), (3, 0, v3)] [] m (fun r m1 => gh_F m1 ∧ Q r m1) := by
    intro c
    have h := hB c
    refine gh_ldc2 (n := (-1001)) gd_Model_trees_31 gh_k1969 (by decide) (gh_r1 rfl) ?_
    exact gh_ret1 rfl gd_Model_trees_34 ⟨hF, h⟩
  refine gh_zeq (tgt := 35) gd_Model_trees_4 (by decide) (fun c4266 => ?_) (fun c4266 => ?_)
  · have hz : True := trivial
    exact k4264 (Or.inl c4266)
  · have hz : True := trivial
    have hk := hk c4266
    refine gh_aload_n gd_Model_trees_7 0 rfl (by decide) ?_
    refine gh_iload_n gd_Model_trees_8 1 rfl ?_
    have q4263 := hk
    refine cv_Model_isName (d := d + 4) gd_Model_trees_9 gh_k1816 hF (Nat.le_of_ble_eq_true rfl) (gh_C.pe (e_Model_isName (d + 3) v1 hF q4263) ?_)
    refine gh_beq (tgt := 31) gd_Model_trees_12 (by decide) (fun c4267 => ?_) (fun c4267 => ?_)
    · have hz : True := trivial
      refine gh_aload_n gd_Model_trees_15 0 rfl (by decide) ?_
      refine gh_iload_n gd_Model_trees_16 2 rfl ?_
      refine cv_Model_isPlace (d := d + 4) gd_Model_trees_17 gh_k1875 hF (Nat.le_of_ble_eq_true rfl) (gh_C.pe (e_Model_isPlace (d + 3) v2 hF) ?_)
      refine gh_beq (tgt := 31) gd_Model_trees_20 (by decide) (fun c4268 => ?_) (fun c4268 => ?_)
      · have hz : True := trivial
        refine gh_aload_n gd_Model_trees_23 0 rfl (by decide) ?_
        refine gh_iload_n gd_Model_trees_24 3 rfl ?_
        refine cv_Model_isPlace (d := d + 4) gd_Model_trees_25 gh_k1875 hF (Nat.le_of_ble_eq_true rfl) (gh_C.pe (e_Model_isPlace (d + 3) v3 hF) ?_)
        refine gh_bne (tgt := 35) gd_Model_trees_28 (by decide) (fun c4269 => ?_) (fun c4269 => ?_)
        · have hz : True := trivial
          exact k4264 (Or.inr ⟨c4267, ⟨c4268, c4269⟩⟩)
        · have hz : True := trivial
          exact k4265 (fun z => z.elim c4266 (fun z => (fun z => c4269 z.2) z.2))
      · have hz : True := trivial
        exact k4265 (fun z => z.elim c4266 (fun z => (fun z => c4268 z.1) z.2))
    · have hz : True := trivial
      exact k4265 (fun z => z.elim c4266 (fun z => c4267 z.1))
def w_Model_opn (v1 : Int) (v2 : Int) (v3 : Int) (v4 : Int) (v5 : Int) (v6 : Int) (m : gh_M) (Q : Int → gh_M → Prop) : Prop := 0 ≤ m 63 80 ∧ (m 63 80) < 1300 ∧ 0 ≤ m 63 80 ∧ (m 63 80) < 1300 ∧ 0 ≤ m 63 80 ∧ (m 63 80) < 1300 ∧ 0 ≤ m 63 80 ∧ (m 63 80) < 1300 ∧ 0 ≤ m 63 80 ∧ (m 63 80) < 1300 ∧ 0 ≤ m 63 80 ∧ (m 63 80) < 1300 ∧ gh_i ((m 63 80) + 1) ∧ Q 0 (gh_u (gh_u (gh_u (gh_u (gh_u (gh_u (gh_u m 111 (m 63 80) v1) 112 (m 63 80) v2) 113 (m 63 80) v3) 114 (m 63 80) v4) 115 (m 63 80) v5) 116 (m 63 80) v6) 63 80 ((m 63 80) + 1))
theorem s_Model_opn {E : gh_E} {m : gh_M} {Q : Int → gh_M → Prop} (d : Nat) (v1 : Int) (v2 : Int) (v3 : Int) (v4 : Int) (v5 : Int) (v6 : Int) (hF : gh_F m) (h : w_Model_opn v1 v2 v3 v4 v5 v6 m Q) : gh_C E gh_yModel_opn prog_14_method_98_code 8 none 9 (d + 0) [(2, 63), (0, v1), (0, v2), (0, v3), (0, v4), (0, v5), (1, v6)] m (fun r m1 => gh_F m1 ∧ Q r m1) := by
  refine gh_enter2 (L := [(0, 2, 63), (1, 0, v1), (2, 0, v2), (3, 0, v3), (4, 0, v4), (5, 0, v5), (6, 1, v6)]) (by decide +kernel) gh_rt9 (Nat.le_of_ble_eq_true rfl) rfl rfl ?_
  unfold w_Model_opn at h
  refine gh_aload_n gd_Model_opn_0 0 rfl (by decide) ?_
  refine gf_63_74 gd_Model_opn_1 gh_k1444 hF ?_
  refine gh_aload_n gd_Model_opn_4 0 rfl (by decide) ?_
  refine gf_63_80 gd_Model_opn_5 gh_k1450 hF rfl ?_
  refine gh_iload_n gd_Model_opn_8 1 rfl ?_
  obtain ⟨q4270, h⟩ := h
  obtain ⟨q4271, h⟩ := h
  refine sa_111 gd_Model_opn_9 hF q4270 q4271 (fun hF => ?_)
  refine gh_aload_n gd_Model_opn_10 0 rfl (by decide) ?_
  refine gf_63_75 gd_Model_opn_11 gh_k1445 hF ?_
  refine gh_aload_n gd_Model_opn_14 0 rfl (by decide) ?_
  refine gf_63_80 gd_Model_opn_15 gh_k1450 hF (gh_u_a (by decide)) ?_
  refine gh_iload_n gd_Model_opn_18 2 rfl ?_
  obtain ⟨q4272, h⟩ := h
  obtain ⟨q4273, h⟩ := h
  refine sa_112 gd_Model_opn_19 hF q4272 q4273 (fun hF => ?_)
  refine gh_aload_n gd_Model_opn_20 0 rfl (by decide) ?_
  refine gf_63_76 gd_Model_opn_21 gh_k1446 hF ?_
  refine gh_aload_n gd_Model_opn_24 0 rfl (by decide) ?_
  refine gf_63_80 gd_Model_opn_25 gh_k1450 hF ((gh_u_a (by decide)).trans (gh_u_a (by decide))) ?_
  refine gh_iload_n gd_Model_opn_28 3 rfl ?_
  obtain ⟨q4274, h⟩ := h
  obtain ⟨q4275, h⟩ := h
  refine sa_113 gd_Model_opn_29 hF q4274 q4275 (fun hF => ?_)
  refine gh_aload_n gd_Model_opn_30 0 rfl (by decide) ?_
  refine gf_63_77 gd_Model_opn_31 gh_k1447 hF ?_
  refine gh_aload_n gd_Model_opn_34 0 rfl (by decide) ?_
  refine gf_63_80 gd_Model_opn_35 gh_k1450 hF ((gh_u_a (by decide)).trans ((gh_u_a (by decide)).trans (gh_u_a (by decide)))) ?_
  refine gh_iload gd_Model_opn_38 4 rfl ?_
  obtain ⟨q4276, h⟩ := h
  obtain ⟨q4277, h⟩ := h
  refine sa_114 gd_Model_opn_40 hF q4276 q4277 (fun hF => ?_)
  refine gh_aload_n gd_Model_opn_41 0 rfl (by decide) ?_
  refine gf_63_78 gd_Model_opn_42 gh_k1448 hF ?_
  refine gh_aload_n gd_Model_opn_45 0 rfl (by decide) ?_
  refine gf_63_80 gd_Model_opn_46 gh_k1450 hF ((gh_u_a (by decide)).trans ((gh_u_a (by decide)).trans ((gh_u_a (by decide)).trans (gh_u_a (by decide))))) ?_
  refine gh_iload gd_Model_opn_49 5 rfl ?_
  obtain ⟨q4278, h⟩ := h
  obtain ⟨q4279, h⟩ := h
  refine sa_115 gd_Model_opn_51 hF q4278 q4279 (fun hF => ?_)
  refine gh_aload_n gd_Model_opn_52 0 rfl (by decide) ?_
  refine gf_63_79 gd_Model_opn_53 gh_k1449 hF ?_
  refine gh_aload_n gd_Model_opn_56 0 rfl (by decide) ?_
  refine gf_63_80 gd_Model_opn_57 gh_k1450 hF ((gh_u_a (by decide)).trans ((gh_u_a (by decide)).trans ((gh_u_a (by decide)).trans ((gh_u_a (by decide)).trans (gh_u_a (by decide)))))) ?_
  refine gh_lload gd_Model_opn_60 6 rfl ?_
  obtain ⟨q4280, h⟩ := h
  obtain ⟨q4281, h⟩ := h
  refine sa_116 gd_Model_opn_62 hF q4280 q4281 (fun hF => ?_)
  refine gh_aload_n gd_Model_opn_63 0 rfl (by decide) ?_
  refine gh_dup gd_Model_opn_64 (by decide) ?_
  refine gf_63_80 gd_Model_opn_65 gh_k1450 hF ((gh_u_a (by decide)).trans ((gh_u_a (by decide)).trans ((gh_u_a (by decide)).trans ((gh_u_a (by decide)).trans ((gh_u_a (by decide)).trans (gh_u_a (by decide))))))) ?_
  refine gh_iconst gd_Model_opn_68 (gh_r0 rfl) ?_
  obtain ⟨q4282, h⟩ := h
  refine gh_iadd gd_Model_opn_69 q4282 ?_
  refine pf_63_80 gd_Model_opn_70 gh_k1450 hF (fun hF => ?_)
  exact gh_ret9 rfl gd_Model_opn_73 ⟨hF, h⟩
def w_Model_exchange (v1 : Int) (v2 : Int) (m : gh_M) (Q : Int → gh_M → Prop) : Prop := 0 ≤ v1 ∧ v1 < 1300 ∧ ∀ v3 : Int, v3 = m 111 v1 → 0 ≤ v1 ∧ v1 < 1300 ∧ ∀ v4 : Int, v4 = m 112 v1 → 0 ≤ v1 ∧ v1 < 1300 ∧ ∀ v5 : Int, v5 = m 113 v1 → 0 ≤ v1 ∧ v1 < 1300 ∧ ∀ v6 : Int, v6 = m 114 v1 → 0 ≤ v1 ∧ v1 < 1300 ∧ ∀ v7 : Int, v7 = m 115 v1 → 0 ≤ v1 ∧ v1 < 1300 ∧ ∀ v8 : Int, v8 = m 116 v1 → 0 ≤ v2 ∧ v2 < 1300 ∧ 0 ≤ v1 ∧ v1 < 1300 ∧ 0 ≤ v2 ∧ v2 < 1300 ∧ 0 ≤ v1 ∧ v1 < 1300 ∧ 0 ≤ v2 ∧ v2 < 1300 ∧ 0 ≤ v1 ∧ v1 < 1300 ∧ 0 ≤ v2 ∧ v2 < 1300 ∧ 0 ≤ v1 ∧ v1 < 1300 ∧ 0 ≤ v2 ∧ v2 < 1300 ∧ 0 ≤ v1 ∧ v1 < 1300 ∧ 0 ≤ v2 ∧ v2 < 1300 ∧ 0 ≤ v1 ∧ v1 < 1300 ∧ 0 ≤ v2 ∧ v2 < 1300 ∧ 0 ≤ v2 ∧ v2 < 1300 ∧ 0 ≤ v2 ∧ v2 < 1300 ∧ 0 ≤ v2 ∧ v2 < 1300 ∧ 0 ≤ v2 ∧ v2 < 1300 ∧ 0 ≤ v2 ∧ v2 < 1300 ∧ Q 0 (gh_u (gh_u (gh_u (gh_u (gh_u (gh_u (gh_u (gh_u (gh_u (gh_u (gh_u (gh_u m 111 v1 (m 111 v2)) 112 v1 (m 112 v2)) 113 v1 (m 113 v2)) 114 v1 (m 114 v2)) 115 v1 (m 115 v2)) 116 v1 (m 116 v2)) 111 v2 v3) 112 v2 v4) 113 v2 v5) 114 v2 v6) 115 v2 v7) 116 v2 v8)
theorem s_Model_exchange {E : gh_E} {m : gh_M} {Q : Int → gh_M → Prop} (d : Nat) (v1 : Int) (v2 : Int) (hF : gh_F m) (h : w_Model_exchange v1 v2 m Q) : gh_C E gh_yModel_exchange prog_14_method_100_code 10 none 9 (d + 0) [(2, 63), (0, v1), (0, v2)] m (fun r m1 => gh_F m1 ∧ Q r m1) := by
  refine gh_enter2 (L := [(0, 2, 63), (1, 0, v1), (2, 0, v2)]) (by decide +kernel) gh_rt9 (Nat.le_of_ble_eq_true rfl) rfl rfl ?_
  unfold w_Model_exchange at h
  refine gh_aload_n gd_Model_exchange_0 0 rfl (by decide) ?_
  refine gf_63_74 gd_Model_exchange_1 gh_k1444 hF ?_
  refine gh_iload_n gd_Model_exchange_4 1 rfl ?_
  obtain ⟨q4283, h⟩ := h
  obtain ⟨q4284, h⟩ := h
  refine la_111 gd_Model_exchange_5 hF q4283 q4284 rfl ?_
  refine gh_name (fun v3 hn => ?_)
  have h := h v3 hn
  refine gh_istore_n (L2 := [(3, 0, v3), (0, 2, 63), (1, 0, v1), (2, 0, v2)]) gd_Model_exchange_6 (by decide) rfl ?_
  refine gh_aload_n gd_Model_exchange_7 1 rfl (by decide) ?_
  refine gf_63_75 gd_Model_exchange_8 gh_k1445 hF ?_
  refine gh_iload_n gd_Model_exchange_11 2 rfl ?_
  obtain ⟨q4285, h⟩ := h
  obtain ⟨q4286, h⟩ := h
  refine la_112 gd_Model_exchange_12 hF q4285 q4286 rfl ?_
  refine gh_name (fun v4 hn => ?_)
  have h := h v4 hn
  refine gh_istore (L2 := [(4, 0, v4), (3, 0, v3), (0, 2, 63), (1, 0, v1), (2, 0, v2)]) gd_Model_exchange_13 (by decide) rfl ?_
  refine gh_aload_n gd_Model_exchange_15 2 rfl (by decide) ?_
  refine gf_63_76 gd_Model_exchange_16 gh_k1446 hF ?_
  refine gh_iload_n gd_Model_exchange_19 3 rfl ?_
  obtain ⟨q4287, h⟩ := h
  obtain ⟨q4288, h⟩ := h
  refine la_113 gd_Model_exchange_20 hF q4287 q4288 rfl ?_
  refine gh_name (fun v5 hn => ?_)
  have h := h v5 hn
  refine gh_istore (L2 := [(5, 0, v5), (4, 0, v4), (3, 0, v3), (0, 2, 63), (1, 0, v1), (2, 0, v2)]) gd_Model_exchange_21 (by decide) rfl ?_
  refine gh_aload_n gd_Model_exchange_23 3 rfl (by decide) ?_
  refine gf_63_77 gd_Model_exchange_24 gh_k1447 hF ?_
  refine gh_iload_n gd_Model_exchange_27 4 rfl ?_
  obtain ⟨q4289, h⟩ := h
  obtain ⟨q4290, h⟩ := h
  refine la_114 gd_Model_exchange_28 hF q4289 q4290 rfl ?_
  refine gh_name (fun v6 hn => ?_)
  have h := h v6 hn
  refine gh_istore (L2 := [(6, 0, v6), (5, 0, v5), (4, 0, v4), (3, 0, v3), (0, 2, 63), (1, 0, v1), (2, 0, v2)]) gd_Model_exchange_29 (by decide) rfl ?_
  refine gh_aload_n gd_Model_exchange_31 4 rfl (by decide) ?_
  refine gf_63_78 gd_Model_exchange_32 gh_k1448 hF ?_
  refine gh_iload_n gd_Model_exchange_35 5 rfl ?_
  obtain ⟨q4291, h⟩ := h
  obtain ⟨q4292, h⟩ := h
  refine la_115 gd_Model_exchange_36 hF q4291 q4292 rfl ?_
  refine gh_name (fun v7 hn => ?_)
  have h := h v7 hn
  refine gh_istore (L2 := [(7, 0, v7), (6, 0, v6), (5, 0, v5), (4, 0, v4), (3, 0, v3), (0, 2, 63), (1, 0, v1), (2, 0, v2)]) gd_Model_exchange_37 (by decide) rfl ?_
  refine gh_aload_n gd_Model_exchange_39 5 rfl (by decide) ?_
  refine gf_63_79 gd_Model_exchange_40 gh_k1449 hF ?_
  refine gh_iload_n gd_Model_exchange_43 6 rfl ?_
  obtain ⟨q4293, h⟩ := h
  obtain ⟨q4294, h⟩ := h
  refine la_116 gd_Model_exchange_44 hF q4293 q4294 rfl ?_
  refine gh_name (fun v8 hn => ?_)
  have h := h v8 hn
  refine gh_lstore (L2 := [(8, 1, v8), (7, 0, v7), (6, 0, v6), (5, 0, v5), (4, 0, v4), (3, 0, v3), (0, 2, 63), (1, 0, v1), (2, 0, v2)]) gd_Model_exchange_45 (by decide) rfl ?_
  refine gh_aload_n gd_Model_exchange_47 6 rfl (by decide) ?_
  refine gf_63_74 gd_Model_exchange_48 gh_k1444 hF ?_
  refine gh_iload_n gd_Model_exchange_51 7 rfl ?_
  refine gh_aload_n gd_Model_exchange_52 6 rfl (by decide) ?_
  refine gf_63_74 gd_Model_exchange_53 gh_k1444 hF ?_
  refine gh_iload_n gd_Model_exchange_56 8 rfl ?_
  obtain ⟨q4295, h⟩ := h
  obtain ⟨q4296, h⟩ := h
  refine la_111 gd_Model_exchange_57 hF q4295 q4296 rfl ?_
  obtain ⟨q4297, h⟩ := h
  obtain ⟨q4298, h⟩ := h
  refine sa_111 gd_Model_exchange_58 hF q4297 q4298 (fun hF => ?_)
  refine gh_aload_n gd_Model_exchange_59 6 rfl (by decide) ?_
  refine gf_63_75 gd_Model_exchange_60 gh_k1445 hF ?_
  refine gh_iload_n gd_Model_exchange_63 7 rfl ?_
  refine gh_aload_n gd_Model_exchange_64 6 rfl (by decide) ?_
  refine gf_63_75 gd_Model_exchange_65 gh_k1445 hF ?_
  refine gh_iload_n gd_Model_exchange_68 8 rfl ?_
  obtain ⟨q4299, h⟩ := h
  obtain ⟨q4300, h⟩ := h
  refine la_112 gd_Model_exchange_69 hF q4299 q4300 (gh_u_a (by decide)) ?_
  obtain ⟨q4301, h⟩ := h
  obtain ⟨q4302, h⟩ := h
  refine sa_112 gd_Model_exchange_70 hF q4301 q4302 (fun hF => ?_)
  refine gh_aload_n gd_Model_exchange_71 6 rfl (by decide) ?_
  refine gf_63_76 gd_Model_exchange_72 gh_k1446 hF ?_
  refine gh_iload_n gd_Model_exchange_75 7 rfl ?_
  refine gh_aload_n gd_Model_exchange_76 6 rfl (by decide) ?_
  refine gf_63_76 gd_Model_exchange_77 gh_k1446 hF ?_
  refine gh_iload_n gd_Model_exchange_80 8 rfl ?_
  obtain ⟨q4303, h⟩ := h
  obtain ⟨q4304, h⟩ := h
  refine la_113 gd_Model_exchange_81 hF q4303 q4304 ((gh_u_a (by decide)).trans (gh_u_a (by decide))) ?_
  obtain ⟨q4305, h⟩ := h
  obtain ⟨q4306, h⟩ := h
  refine sa_113 gd_Model_exchange_82 hF q4305 q4306 (fun hF => ?_)
  refine gh_aload_n gd_Model_exchange_83 6 rfl (by decide) ?_
  refine gf_63_77 gd_Model_exchange_84 gh_k1447 hF ?_
  refine gh_iload_n gd_Model_exchange_87 7 rfl ?_
  refine gh_aload_n gd_Model_exchange_88 6 rfl (by decide) ?_
  refine gf_63_77 gd_Model_exchange_89 gh_k1447 hF ?_
  refine gh_iload_n gd_Model_exchange_92 8 rfl ?_
  obtain ⟨q4307, h⟩ := h
  obtain ⟨q4308, h⟩ := h
  refine la_114 gd_Model_exchange_93 hF q4307 q4308 ((gh_u_a (by decide)).trans ((gh_u_a (by decide)).trans (gh_u_a (by decide)))) ?_
  obtain ⟨q4309, h⟩ := h
  obtain ⟨q4310, h⟩ := h
  refine sa_114 gd_Model_exchange_94 hF q4309 q4310 (fun hF => ?_)
  refine gh_aload_n gd_Model_exchange_95 6 rfl (by decide) ?_
  refine gf_63_78 gd_Model_exchange_96 gh_k1448 hF ?_
  refine gh_iload_n gd_Model_exchange_99 7 rfl ?_
  refine gh_aload_n gd_Model_exchange_100 6 rfl (by decide) ?_
  refine gf_63_78 gd_Model_exchange_101 gh_k1448 hF ?_
  refine gh_iload_n gd_Model_exchange_104 8 rfl ?_
  obtain ⟨q4311, h⟩ := h
  obtain ⟨q4312, h⟩ := h
  refine la_115 gd_Model_exchange_105 hF q4311 q4312 ((gh_u_a (by decide)).trans ((gh_u_a (by decide)).trans ((gh_u_a (by decide)).trans (gh_u_a (by decide))))) ?_
  obtain ⟨q4313, h⟩ := h
  obtain ⟨q4314, h⟩ := h
  refine sa_115 gd_Model_exchange_106 hF q4313 q4314 (fun hF => ?_)
  refine gh_aload_n gd_Model_exchange_107 6 rfl (by decide) ?_
  refine gf_63_79 gd_Model_exchange_108 gh_k1449 hF ?_
  refine gh_iload_n gd_Model_exchange_111 7 rfl ?_
  refine gh_aload_n gd_Model_exchange_112 6 rfl (by decide) ?_
  refine gf_63_79 gd_Model_exchange_113 gh_k1449 hF ?_
  refine gh_iload_n gd_Model_exchange_116 8 rfl ?_
  obtain ⟨q4315, h⟩ := h
  obtain ⟨q4316, h⟩ := h
  refine la_116 gd_Model_exchange_117 hF q4315 q4316 ((gh_u_a (by decide)).trans ((gh_u_a (by decide)).trans ((gh_u_a (by decide)).trans ((gh_u_a (by decide)).trans (gh_u_a (by decide)))))) ?_
  obtain ⟨q4317, h⟩ := h
  obtain ⟨q4318, h⟩ := h
  refine sa_116 gd_Model_exchange_118 hF q4317 q4318 (fun hF => ?_)
  refine gh_aload_n gd_Model_exchange_119 6 rfl (by decide) ?_
  refine gf_63_74 gd_Model_exchange_120 gh_k1444 hF ?_
  refine gh_iload_n gd_Model_exchange_123 8 rfl ?_
  refine gh_iload_n gd_Model_exchange_124 5 rfl ?_
  obtain ⟨q4319, h⟩ := h
  obtain ⟨q4320, h⟩ := h
  refine sa_111 gd_Model_exchange_125 hF q4319 q4320 (fun hF => ?_)
  refine gh_aload_n gd_Model_exchange_126 6 rfl (by decide) ?_
  refine gf_63_75 gd_Model_exchange_127 gh_k1445 hF ?_
  refine gh_iload_n gd_Model_exchange_130 8 rfl ?_
  refine gh_iload gd_Model_exchange_131 4 rfl ?_
  obtain ⟨q4321, h⟩ := h
  obtain ⟨q4322, h⟩ := h
  refine sa_112 gd_Model_exchange_133 hF q4321 q4322 (fun hF => ?_)
  refine gh_aload_n gd_Model_exchange_134 6 rfl (by decide) ?_
  refine gf_63_76 gd_Model_exchange_135 gh_k1446 hF ?_
  refine gh_iload_n gd_Model_exchange_138 8 rfl ?_
  refine gh_iload gd_Model_exchange_139 3 rfl ?_
  obtain ⟨q4323, h⟩ := h
  obtain ⟨q4324, h⟩ := h
  refine sa_113 gd_Model_exchange_141 hF q4323 q4324 (fun hF => ?_)
  refine gh_aload_n gd_Model_exchange_142 6 rfl (by decide) ?_
  refine gf_63_77 gd_Model_exchange_143 gh_k1447 hF ?_
  refine gh_iload_n gd_Model_exchange_146 8 rfl ?_
  refine gh_iload gd_Model_exchange_147 2 rfl ?_
  obtain ⟨q4325, h⟩ := h
  obtain ⟨q4326, h⟩ := h
  refine sa_114 gd_Model_exchange_149 hF q4325 q4326 (fun hF => ?_)
  refine gh_aload_n gd_Model_exchange_150 6 rfl (by decide) ?_
  refine gf_63_78 gd_Model_exchange_151 gh_k1448 hF ?_
  refine gh_iload_n gd_Model_exchange_154 8 rfl ?_
  refine gh_iload gd_Model_exchange_155 1 rfl ?_
  obtain ⟨q4327, h⟩ := h
  obtain ⟨q4328, h⟩ := h
  refine sa_115 gd_Model_exchange_157 hF q4327 q4328 (fun hF => ?_)
  refine gh_aload_n gd_Model_exchange_158 6 rfl (by decide) ?_
  refine gf_63_79 gd_Model_exchange_159 gh_k1449 hF ?_
  refine gh_iload_n gd_Model_exchange_162 8 rfl ?_
  refine gh_lload gd_Model_exchange_163 0 rfl ?_
  obtain ⟨q4329, h⟩ := h
  obtain ⟨q4330, h⟩ := h
  refine sa_116 gd_Model_exchange_165 hF q4329 q4330 (fun hF => ?_)
  exact gh_ret9 rfl gd_Model_exchange_166 ⟨hF, h⟩
def f_Model_openParts_79 (v1 : Int) (v2 : Int) (v3 : Int) (v4 : Int) (v5 : Int) (v8 : Int) (v9 : Int) (v12 : Int) (v13 : Int) (K16 : Int → Int → Int → gh_M → Prop) (m : gh_M) (K79 : Int → Int → Int → Prop) (v10 : Int) (v14 : Int) (v15 : Int) : Prop := ((v10 < v15 → gh_i (9 * v12) ∧ gh_i ((9 * v12) + 9) ∧ gh_i (((9 * v12) + 9) + v14) ∧ 0 ≤ ((9 * v12) + 9) + v14 ∧ (((9 * v12) + 9) + v14) < 45 ∧ ∀ v17 : Int, v17 = m 108 (((9 * v12) + 9) + v14) → ∀ v19 : Int, v19 = (if ((v9 = v2) ∧ (v14 = v3)) then (1:Int) else 0) → ∃ J231 : gh_M → Prop, (∀ (m : gh_M), J231 m → 0 ≤ v10 ∧ 0 < v17 ∧ ∀ v10' : Int, v10' = v10 % v17 → gh_i (v12 + 1) ∧ K16 v14 v10' (v12 + 1) m) ∧ ((v13 ≤ 0 → gh_i ((-1) - v13) ∧ 0 ≤ v10 ∧ 0 < v17 ∧ w_Model_opn ((-1) - v13) v9 v14 (if v19 = 0 then 0 else v4) v5 (v10 / v17) m (fun _ m4364 => J231 m4364)) ∧ (¬ (v13 ≤ 0) → 0 ≤ v9 ∧ v9 < 8 ∧ gh_i ((-1) - (m 96 v9)) ∧ w_Model_opn ((-1) - (m 96 v9)) v9 v14 0 v5 0 m (fun _ m4370 => J231 m4370)))) ∧ (¬ (v10 < v15) → gh_j (v10 - v15) ∧ ∀ v10' : Int, v10' = v10 - v15 → gh_i (v14 + 1) ∧ w_Model_countOf v13 v9 (v14 + 1) v2 v3 v4 m (fun r4375 => gh_i (9 * v12) ∧ gh_i ((9 * v12) + 9) ∧ gh_i (((9 * v12) + 9) + (v14 + 1)) ∧ 0 ≤ ((9 * v12) + 9) + (v14 + 1) ∧ (((9 * v12) + 9) + (v14 + 1)) < 45 ∧ k_Model_times r4375 (m 108 (((9 * v12) + 9) + (v14 + 1))) ∧ ∀ v15' : Int, v15' = x_Model_times r4375 (m 108 (((9 * v12) + 9) + (v14 + 1))) → K79 v10' (v14 + 1) v15')))
def f_Model_openParts_251 (v8 : Int) (Q : Int → gh_M → Prop) (K251 : Int → gh_M → Prop) (v12 : Int) (m : gh_M) : Prop := gh_i ((m 63 80) - v8) ∧ 0 ≤ (m 63 80) - v8 ∧ ((v12 < (((m 63 80) - v8) / 2) → gh_i (v8 + v12) ∧ gh_i ((m 63 80) - 1) ∧ gh_i (((m 63 80) - 1) - v12) ∧ w_Model_exchange (v8 + v12) (((m 63 80) - 1) - v12) m (fun _ m4390 => gh_i (v12 + 1) ∧ K251 (v12 + 1) m4390)) ∧ (¬ (v12 < (((m 63 80) - v8) / 2)) → Q 0 m))
def f_Model_openParts_16 (v1 : Int) (v2 : Int) (v3 : Int) (v4 : Int) (v5 : Int) (v8 : Int) (Q : Int → gh_M → Prop) (K16 : Int → Int → Int → gh_M → Prop) (v9 : Int) (v10 : Int) (v12 : Int) (m : gh_M) : Prop := 0 ≤ v1 ∧ v1 < 20 ∧ ((v12 < (m 80 v1) → gh_i (4 * v1) ∧ gh_i ((4 * v1) + v12) ∧ 0 ≤ (4 * v1) + v12 ∧ ((4 * v1) + v12) < 80 ∧ ∀ v13 : Int, v13 = m 81 ((4 * v1) + v12) → w_Model_countOf v13 v9 v9 v2 v3 v4 m (fun r4338 => gh_i (9 * v12) ∧ gh_i ((9 * v12) + 9) ∧ gh_i (((9 * v12) + 9) + v9) ∧ 0 ≤ ((9 * v12) + 9) + v9 ∧ (((9 * v12) + 9) + v9) < 45 ∧ k_Model_times r4338 (m 108 (((9 * v12) + 9) + v9)) ∧ ∀ v15 : Int, v15 = x_Model_times r4338 (m 108 (((9 * v12) + 9) + v9)) → gh_L3 (fun K79 v10 v14 v15 => f_Model_openParts_79 v1 v2 v3 v4 v5 v8 v9 v12 v13 K16 m K79 v10 v14 v15) v10 v9 v15)) ∧ (¬ (v12 < (m 80 v1)) → gh_M1 (fun K251 v12 m => f_Model_openParts_251 v8 Q K251 v12 m) 0 m))
def w_Model_openParts (v1 : Int) (v2 : Int) (v3 : Int) (v4 : Int) (v5 : Int) (v6 : Int) (m : gh_M) (Q : Int → gh_M → Prop) : Prop := ∀ v8 : Int, v8 = m 63 80 → gh_M3 (fun K16 v9 v10 v12 m => f_Model_openParts_16 v1 v2 v3 v4 v5 v8 Q K16 v9 v10 v12 m) v2 v6 0 m
theorem b_Model_openParts_79 {E : gh_E} {v1 : Int} {v2 : Int} {v3 : Int} {v4 : Int} {v5 : Int} {v8 : Int} {v9 : Int} {v12 : Int} {v13 : Int} {K16 : Int → Int → Int → gh_M → Prop} {Q : Int → gh_M → Prop} {K79 : Int → Int → Int → Prop} (d : Nat) {m : gh_M} (hK16 : ∀ (v9 : Int) (v10 : Int) (v12 : Int) (m : gh_M), gh_F m → K16 v9 v10 v12 m → gh_T E (gh_yModel_openParts.cls, prog_14_method_99_code, 20, false, 9) (d + 3) 16 [(0, 2, 63), (1, 0, v1), (2, 0, v2), (3, 0, v3), (4, 0, v4), (5, 0, v5), (8, 0, v8), (9, 0, v9), (10, 1, v10), (12, 0, v12)] [] m (fun r m1 => gh_F m1 ∧ Q r m1)) (hK : ∀ (v10 : Int) (v14 : Int) (v15 : Int), gh_F m → K79 v10 v14 v15 → gh_T E (gh_yModel_openParts.cls, prog_14_method_99_code, 20, false, 9) (d + 3) 79 [(0, 2, 63), (1, 0, v1), (2, 0, v2), (3, 0, v3), (4, 0, v4), (5, 0, v5), (8, 0, v8), (9, 0, v9), (10, 1, v10), (12, 0, v12), (13, 0, v13), (14, 0, v14), (15, 1, v15)] [] m (fun r m1 => gh_F m1 ∧ Q r m1)) (v10 : Int) (v14 : Int) (v15 : Int) (hF : gh_F m) (h : f_Model_openParts_79 v1 v2 v3 v4 v5 v8 v9 v12 v13 K16 m K79 v10 v14 v15) : gh_T E (gh_yModel_openParts.cls, prog_14_method_99_code, 20, false, 9) (d + 3) 79 [(0, 2, 63), (1, 0, v1), (2, 0, v2), (3, 0, v3), (4, 0, v4), (5, 0, v5), (8, 0, v8), (9, 0, v9), (10, 1, v10), (12, 0, v12), (13, 0, v13), (14, 0, v14), (15, 1, v15)] [] m (fun r m1 => gh_F m1 ∧ Q r m1) := by
  have hK79 := hK
  unfold f_Model_openParts_79 at h
  refine gh_lload gd_Model_openParts_79 8 rfl ?_
  refine gh_lload gd_Model_openParts_81 12 rfl ?_
  refine gh_lcmp gd_Model_openParts_83 ?_
  obtain ⟨hA, hB⟩ := h
  refine gh_clt (tgt := 135) gd_Model_openParts_84 (by decide) (fun c4346 => ?_) (fun c4346 => ?_)
  · have h := hA c4346
    refine gh_aload_n gd_Model_openParts_135 0 rfl (by decide) ?_
    refine gf_63_67 gd_Model_openParts_136 gh_k1437 hF ?_
    refine gh_bipush gd_Model_openParts_139 (by decide) (gh_r0 rfl) ?_
    refine gh_iload gd_Model_openParts_141 9 rfl ?_
    obtain ⟨q4347, h⟩ := h
    refine gh_imul gd_Model_openParts_143 q4347 ?_
    refine gh_bipush gd_Model_openParts_144 (by decide) (gh_r0 rfl) ?_
    obtain ⟨q4348, h⟩ := h
    refine gh_iadd gd_Model_openParts_146 q4348 ?_
    refine gh_iload gd_Model_openParts_147 11 rfl ?_
    obtain ⟨q4349, h⟩ := h
    refine gh_iadd gd_Model_openParts_149 q4349 ?_
    obtain ⟨q4350, h⟩ := h
    obtain ⟨q4351, h⟩ := h
    refine la_108 gd_Model_openParts_150 hF q4350 q4351 rfl ?_
    refine gh_name (fun v17 hn => ?_)
    have h := h v17 hn
    refine gh_lstore (L2 := [(17, 1, v17), (0, 2, 63), (1, 0, v1), (2, 0, v2), (3, 0, v3), (4, 0, v4), (5, 0, v5), (8, 0, v8), (9, 0, v9), (10, 1, v10), (12, 0, v12), (13, 0, v13), (14, 0, v14), (15, 1, v15)]) gd_Model_openParts_151 (by decide) rfl ?_
    refine gh_iload gd_Model_openParts_153 8 rfl ?_
    refine gh_iload_n gd_Model_openParts_155 3 rfl ?_
    have k4352 : ∀ x4353 : Int, x4353 = (if ((v9 = v2) ∧ (v14 = v3)) then (1:Int) else 0) → gh_T E (gh_yModel_openParts.cls, prog_14_method_99_code, 20, false, 9) (d + 3) 170 [(17, 1, v17), (0, 2, 63), (1, 0, v1), (2, 0, v2), (3, 0, v3), (4, 0, v4), (5, 0, v5), (8, 0, v8), (9, 0, v9), (10, 1, v10), (12, 0, v12), (13, 0, v13), (14, 0, v14), (15, 1, v15)] [(0, x4353)] m (fun r m1 => gh_F m1 ∧ Q r m1) := by
      rintro _ rfl
      refine gh_name (fun v19 hn => ?_)
      have h := h v19 hn
      refine gh_istore (L2 := [(19, 0, v19), (17, 1, v17), (0, 2, 63), (1, 0, v1), (2, 0, v2), (3, 0, v3), (4, 0, v4), (5, 0, v5), (8, 0, v8), (9, 0, v9), (10, 1, v10), (12, 0, v12), (13, 0, v13), (14, 0, v14), (15, 1, v15)]) gd_Model_openParts_170 (by decide) rfl ?_
      refine gh_iload gd_Model_openParts_172 12 rfl ?_
      obtain ⟨J231, hJ231, h⟩ := h
      have hJ231 : ∀ (m : gh_M), gh_F m → J231 m → gh_T E (gh_yModel_openParts.cls, prog_14_method_99_code, 20, false, 9) (d + 3) 231 [(0, 2, 63), (1, 0, v1), (2, 0, v2), (3, 0, v3), (4, 0, v4), (5, 0, v5), (8, 0, v8), (10, 1, v10), (12, 0, v12), (14, 0, v14), (17, 1, v17)] [] m (fun r m1 => gh_F m1 ∧ Q r m1) := by
        intro m hF hj
        have h := hJ231 m hj
        refine gh_lload gd_Model_openParts_231 7 rfl ?_
        refine gh_lload gd_Model_openParts_233 10 rfl ?_
        obtain ⟨q4354, h⟩ := h
        obtain ⟨q4355, h⟩ := h
        refine gh_lrem gd_Model_openParts_235 q4354 q4355 ?_
        refine gh_name (fun v10' hn => ?_)
        have h := h v10' hn
        refine gh_lstore (L2 := [(10, 1, v10'), (0, 2, 63), (1, 0, v1), (2, 0, v2), (3, 0, v3), (4, 0, v4), (5, 0, v5), (8, 0, v8), (12, 0, v12), (14, 0, v14), (17, 1, v17)]) gd_Model_openParts_236 (by decide) rfl ?_
        refine gh_iload gd_Model_openParts_238 9 rfl ?_
        refine gh_istore (L2 := [(9, 0, v14), (10, 1, v10'), (0, 2, 63), (1, 0, v1), (2, 0, v2), (3, 0, v3), (4, 0, v4), (5, 0, v5), (8, 0, v8), (12, 0, v12), (14, 0, v14), (17, 1, v17)]) gd_Model_openParts_240 (by decide) rfl ?_
        obtain ⟨q4356, h⟩ := h
        refine gh_iinc (L2 := [(12, 0, v12 + 1), (9, 0, v14), (10, 1, v10'), (0, 2, 63), (1, 0, v1), (2, 0, v2), (3, 0, v3), (4, 0, v4), (5, 0, v5), (8, 0, v8), (14, 0, v14), (17, 1, v17)]) gd_Model_openParts_242 9 rfl q4356 (by decide) rfl ?_
        refine gh_goto (tgt := 16) gd_Model_openParts_245 (by decide) ?_
        refine gh_pick (L2 := [(0, 2, 63), (1, 0, v1), (2, 0, v2), (3, 0, v3), (4, 0, v4), (5, 0, v5), (8, 0, v8), (9, 0, v14), (10, 1, v10'), (12, 0, v12 + 1)]) [3, 4, 5, 6, 7, 8, 9, 1, 2, 0] rfl ?_
        exact hK16 v14 v10' (v12 + 1) m hF h
      obtain ⟨hA, hB⟩ := h
      refine gh_zle (tgt := 201) gd_Model_openParts_174 (by decide) (fun c4357 => ?_) (fun c4357 => ?_)
      · have h := hA c4357
        refine gh_aload_n gd_Model_openParts_201 2 rfl (by decide) ?_
        refine gh_iconst gd_Model_openParts_202 (gh_r0 rfl) ?_
        refine gh_iload gd_Model_openParts_203 12 rfl ?_
        obtain ⟨q4358, h⟩ := h
        refine gh_isub gd_Model_openParts_205 q4358 ?_
        refine gh_iload gd_Model_openParts_206 9 rfl ?_
        refine gh_iload gd_Model_openParts_208 13 rfl ?_
        refine gh_iload gd_Model_openParts_210 0 rfl ?_
        have k4359 : ∀ x4360 : Int, x4360 = (if v19 = 0 then 0 else v4) → gh_T E (gh_yModel_openParts.cls, prog_14_method_99_code, 20, false, 9) (d + 3) 221 [(19, 0, v19), (17, 1, v17), (0, 2, 63), (1, 0, v1), (2, 0, v2), (3, 0, v3), (4, 0, v4), (5, 0, v5), (8, 0, v8), (9, 0, v9), (10, 1, v10), (12, 0, v12), (13, 0, v13), (14, 0, v14), (15, 1, v15)] [(0, x4360), (0, v14), (0, v9), (0, (-1) - v13), (2, 63)] m (fun r m1 => gh_F m1 ∧ Q r m1) := by
          rintro _ rfl
          refine gh_iload gd_Model_openParts_221 7 rfl ?_
          refine gh_lload gd_Model_openParts_223 10 rfl ?_
          refine gh_lload gd_Model_openParts_225 1 rfl ?_
          obtain ⟨q4361, h⟩ := h
          obtain ⟨q4362, h⟩ := h
          refine gh_ldiv gd_Model_openParts_227 q4361 q4362 ?_
          refine cv_Model_opn (d := d + 2) gd_Model_openParts_228 gh_k2013 hF (Nat.le_of_ble_eq_true rfl) (gh_C.mono (s_Model_opn (d + 2) ((-1) - v13) v9 v14 (if v19 = 0 then 0 else v4) v5 (v10 / v17) hF h) (fun r4363 m4364 hq => ?_))
          obtain ⟨hF, h⟩ := hq
          refine gh_pick (L2 := [(0, 2, 63), (1, 0, v1), (2, 0, v2), (3, 0, v3), (4, 0, v4), (5, 0, v5), (8, 0, v8), (10, 1, v10), (12, 0, v12), (14, 0, v14), (17, 1, v17)]) [2, 3, 4, 5, 6, 7, 8, 10, 11, 13, 1] rfl ?_
          exact hJ231 m4364 hF h
        refine gh_zeq (tgt := 220) gd_Model_openParts_212 (by decide) (fun c4365 => ?_) (fun c4365 => ?_)
        · have hz : True := trivial
          refine gh_iconst gd_Model_openParts_220 (gh_r0 rfl) ?_
          exact k4359 _ (by rw [if_pos c4365])
        · have hz : True := trivial
          refine gh_iload gd_Model_openParts_215 6 rfl ?_
          refine gh_goto (tgt := 221) gd_Model_openParts_217 (by decide) ?_
          exact k4359 _ (by rw [if_neg c4365])
      · have h := hB c4357
        refine gh_aload_n gd_Model_openParts_177 2 rfl (by decide) ?_
        refine gh_iconst gd_Model_openParts_178 (gh_r0 rfl) ?_
        refine gh_aload_n gd_Model_openParts_179 2 rfl (by decide) ?_
        refine gf_63_51 gd_Model_openParts_180 gh_k1421 hF ?_
        refine gh_iload gd_Model_openParts_183 9 rfl ?_
        obtain ⟨q4366, h⟩ := h
        obtain ⟨q4367, h⟩ := h
        refine la_96 gd_Model_openParts_185 hF q4366 q4367 rfl ?_
        obtain ⟨q4368, h⟩ := h
        refine gh_isub gd_Model_openParts_186 q4368 ?_
        refine gh_iload gd_Model_openParts_187 9 rfl ?_
        refine gh_iload gd_Model_openParts_189 13 rfl ?_
        refine gh_iconst gd_Model_openParts_191 (gh_r0 rfl) ?_
        refine gh_iload gd_Model_openParts_192 7 rfl ?_
        refine gh_lconst (n := 0) gd_Model_openParts_194 (by decide) (gh_r1 rfl) ?_
        refine cv_Model_opn (d := d + 2) gd_Model_openParts_195 gh_k2013 hF (Nat.le_of_ble_eq_true rfl) (gh_C.mono (s_Model_opn (d + 2) ((-1) - (m 96 v9)) v9 v14 0 v5 0 hF h) (fun r4369 m4370 hq => ?_))
        obtain ⟨hF, h⟩ := hq
        refine gh_goto (tgt := 231) gd_Model_openParts_198 (by decide) ?_
        refine gh_pick (L2 := [(0, 2, 63), (1, 0, v1), (2, 0, v2), (3, 0, v3), (4, 0, v4), (5, 0, v5), (8, 0, v8), (10, 1, v10), (12, 0, v12), (14, 0, v14), (17, 1, v17)]) [2, 3, 4, 5, 6, 7, 8, 10, 11, 13, 1] rfl ?_
        exact hJ231 m4370 hF h
    refine gh_jne (tgt := 169) gd_Model_openParts_156 (by decide) (fun c4371 => ?_) (fun c4371 => ?_)
    · have hz : True := trivial
      refine gh_iload gd_Model_openParts_159 12 rfl ?_
      refine gh_iload_n gd_Model_openParts_161 4 rfl ?_
      refine gh_jne (tgt := 169) gd_Model_openParts_162 (by decide) (fun c4372 => ?_) (fun c4372 => ?_)
      · have hz : True := trivial
        refine gh_iconst gd_Model_openParts_165 (gh_r0 rfl) ?_
        refine gh_goto (tgt := 170) gd_Model_openParts_166 (by decide) ?_
        exact k4352 _ (if_pos (c := ((v9 = v2) ∧ (v14 = v3))) ⟨c4371, c4372⟩).symm
      · have hz : True := trivial
        refine gh_iconst gd_Model_openParts_169 (gh_r0 rfl) ?_
        exact k4352 _ (if_neg (c := ((v9 = v2) ∧ (v14 = v3))) (fun z => c4372 z.2)).symm
    · have hz : True := trivial
      refine gh_iconst gd_Model_openParts_169 (gh_r0 rfl) ?_
      exact k4352 _ (if_neg (c := ((v9 = v2) ∧ (v14 = v3))) (fun z => c4371 z.1)).symm
  · have h := hB c4346
    refine gh_lload gd_Model_openParts_87 8 rfl ?_
    refine gh_lload gd_Model_openParts_89 12 rfl ?_
    obtain ⟨q4373, h⟩ := h
    refine gh_lsub gd_Model_openParts_91 q4373 ?_
    refine gh_name (fun v10' hn => ?_)
    have h := h v10' hn
    refine gh_lstore (L2 := [(10, 1, v10'), (0, 2, 63), (1, 0, v1), (2, 0, v2), (3, 0, v3), (4, 0, v4), (5, 0, v5), (8, 0, v8), (9, 0, v9), (12, 0, v12), (13, 0, v13), (14, 0, v14), (15, 1, v15)]) gd_Model_openParts_92 (by decide) rfl ?_
    obtain ⟨q4374, h⟩ := h
    refine gh_iinc (L2 := [(14, 0, v14 + 1), (10, 1, v10'), (0, 2, 63), (1, 0, v1), (2, 0, v2), (3, 0, v3), (4, 0, v4), (5, 0, v5), (8, 0, v8), (9, 0, v9), (12, 0, v12), (13, 0, v13), (15, 1, v15)]) gd_Model_openParts_94 11 rfl q4374 (by decide) rfl ?_
    refine gh_aload_n gd_Model_openParts_97 2 rfl (by decide) ?_
    refine gh_iload gd_Model_openParts_98 11 rfl ?_
    refine gh_iload gd_Model_openParts_100 9 rfl ?_
    refine gh_iload gd_Model_openParts_102 0 rfl ?_
    refine gh_iload_n gd_Model_openParts_104 4 rfl ?_
    refine gh_iload_n gd_Model_openParts_105 5 rfl ?_
    refine gh_iload gd_Model_openParts_106 6 rfl ?_
    refine cv_Model_countOf (d := d + 2) gd_Model_openParts_108 gh_k1996 hF (Nat.le_of_ble_eq_true rfl) (gh_C.pw (s_Model_countOf d v13 v9 (v14 + 1) v2 v3 v4 hF h) (fun r4375 h => ?_))
    refine gh_aload_n gd_Model_openParts_111 2 rfl (by decide) ?_
    refine gf_63_67 gd_Model_openParts_112 gh_k1437 hF ?_
    refine gh_bipush gd_Model_openParts_115 (by decide) (gh_r0 rfl) ?_
    refine gh_iload gd_Model_openParts_117 10 rfl ?_
    obtain ⟨q4377, h⟩ := h
    refine gh_imul gd_Model_openParts_119 q4377 ?_
    refine gh_bipush gd_Model_openParts_120 (by decide) (gh_r0 rfl) ?_
    obtain ⟨q4378, h⟩ := h
    refine gh_iadd gd_Model_openParts_122 q4378 ?_
    refine gh_iload gd_Model_openParts_123 0 rfl ?_
    obtain ⟨q4379, h⟩ := h
    refine gh_iadd gd_Model_openParts_125 q4379 ?_
    obtain ⟨q4380, h⟩ := h
    obtain ⟨q4381, h⟩ := h
    refine la_108 gd_Model_openParts_126 hF q4380 q4381 rfl ?_
    obtain ⟨q4382, h⟩ := h
    refine cv_Model_times (d := d + 2) gd_Model_openParts_127 gh_k2000 (Nat.le_of_ble_eq_true rfl) (gh_C.pe (e_Model_times (d + 2) r4375 (m 108 (((9 * v12) + 9) + (v14 + 1))) q4382) ?_)
    refine gh_name (fun v15' hn => ?_)
    have h := h v15' hn
    refine gh_lstore (L2 := [(15, 1, v15'), (14, 0, v14 + 1), (10, 1, v10'), (0, 2, 63), (1, 0, v1), (2, 0, v2), (3, 0, v3), (4, 0, v4), (5, 0, v5), (8, 0, v8), (9, 0, v9), (12, 0, v12), (13, 0, v13)]) gd_Model_openParts_130 (by decide) rfl ?_
    refine gh_goto (tgt := 79) gd_Model_openParts_132 (by decide) ?_
    refine gh_pick (L2 := [(0, 2, 63), (1, 0, v1), (2, 0, v2), (3, 0, v3), (4, 0, v4), (5, 0, v5), (8, 0, v8), (9, 0, v9), (10, 1, v10'), (12, 0, v12), (13, 0, v13), (14, 0, v14 + 1), (15, 1, v15')]) [3, 4, 5, 6, 7, 8, 9, 10, 2, 11, 12, 1, 0] rfl ?_
    exact hK79 v10' (v14 + 1) v15' hF h
theorem b_Model_openParts_251 {E : gh_E} {v8 : Int} {Q : Int → gh_M → Prop} {K251 : Int → gh_M → Prop} (d : Nat) (hK : ∀ (v12 : Int) (m : gh_M), gh_F m → K251 v12 m → gh_T E (gh_yModel_openParts.cls, prog_14_method_99_code, 20, false, 9) (d + 3) 251 [(0, 2, 63), (8, 0, v8), (12, 0, v12)] [] m (fun r m1 => gh_F m1 ∧ Q r m1)) (v12 : Int) (m : gh_M) (hF : gh_F m) (h : f_Model_openParts_251 v8 Q K251 v12 m) : gh_T E (gh_yModel_openParts.cls, prog_14_method_99_code, 20, false, 9) (d + 3) 251 [(0, 2, 63), (8, 0, v8), (12, 0, v12)] [] m (fun r m1 => gh_F m1 ∧ Q r m1) := by
  have hK251 := hK
  unfold f_Model_openParts_251 at h
  refine gh_iload gd_Model_openParts_251 2 rfl ?_
  refine gh_aload_n gd_Model_openParts_253 0 rfl (by decide) ?_
  refine gf_63_80 gd_Model_openParts_254 gh_k1450 hF rfl ?_
  refine gh_iload gd_Model_openParts_257 1 rfl ?_
  obtain ⟨q4383, h⟩ := h
  refine gh_isub gd_Model_openParts_259 q4383 ?_
  refine gh_iconst gd_Model_openParts_260 (gh_r0 rfl) ?_
  obtain ⟨q4384, h⟩ := h
  refine gh_idiv gd_Model_openParts_261 q4384 (by decide) ?_
  obtain ⟨hA, hB⟩ := h
  refine gh_jge (tgt := 289) gd_Model_openParts_262 (by decide) (fun c4385 => ?_) (fun c4385 => ?_)
  · have h := hA c4385
    refine gh_aload_n gd_Model_openParts_265 0 rfl (by decide) ?_
    refine gh_iload gd_Model_openParts_266 1 rfl ?_
    refine gh_iload gd_Model_openParts_268 2 rfl ?_
    obtain ⟨q4386, h⟩ := h
    refine gh_iadd gd_Model_openParts_270 q4386 ?_
    refine gh_aload_n gd_Model_openParts_271 0 rfl (by decide) ?_
    refine gf_63_80 gd_Model_openParts_272 gh_k1450 hF rfl ?_
    refine gh_iconst gd_Model_openParts_275 (gh_r0 rfl) ?_
    obtain ⟨q4387, h⟩ := h
    refine gh_isub gd_Model_openParts_276 q4387 ?_
    refine gh_iload gd_Model_openParts_277 2 rfl ?_
    obtain ⟨q4388, h⟩ := h
    refine gh_isub gd_Model_openParts_279 q4388 ?_
    refine cv_Model_exchange (d := d + 2) gd_Model_openParts_280 gh_k2025 hF (Nat.le_of_ble_eq_true rfl) (gh_C.mono (s_Model_exchange (d + 2) (v8 + v12) (((m 63 80) - 1) - v12) hF h) (fun r4389 m4390 hq => ?_))
    obtain ⟨hF, h⟩ := hq
    obtain ⟨q4391, h⟩ := h
    refine gh_iinc (L2 := [(12, 0, v12 + 1), (0, 2, 63), (8, 0, v8)]) gd_Model_openParts_283 2 rfl q4391 (by decide) rfl ?_
    refine gh_goto (tgt := 251) gd_Model_openParts_286 (by decide) ?_
    refine gh_pick (L2 := [(0, 2, 63), (8, 0, v8), (12, 0, v12 + 1)]) [1, 2, 0] rfl ?_
    exact hK251 (v12 + 1) m4390 hF h
  · have h := hB c4385
    exact gh_ret9 rfl gd_Model_openParts_289 ⟨hF, h⟩
theorem b_Model_openParts_16 {E : gh_E} {v1 : Int} {v2 : Int} {v3 : Int} {v4 : Int} {v5 : Int} {v8 : Int} {Q : Int → gh_M → Prop} {K16 : Int → Int → Int → gh_M → Prop} (d : Nat) (hK : ∀ (v9 : Int) (v10 : Int) (v12 : Int) (m : gh_M), gh_F m → K16 v9 v10 v12 m → gh_T E (gh_yModel_openParts.cls, prog_14_method_99_code, 20, false, 9) (d + 3) 16 [(0, 2, 63), (1, 0, v1), (2, 0, v2), (3, 0, v3), (4, 0, v4), (5, 0, v5), (8, 0, v8), (9, 0, v9), (10, 1, v10), (12, 0, v12)] [] m (fun r m1 => gh_F m1 ∧ Q r m1)) (v9 : Int) (v10 : Int) (v12 : Int) (m : gh_M) (hF : gh_F m) (h : f_Model_openParts_16 v1 v2 v3 v4 v5 v8 Q K16 v9 v10 v12 m) : gh_T E (gh_yModel_openParts.cls, prog_14_method_99_code, 20, false, 9) (d + 3) 16 [(0, 2, 63), (1, 0, v1), (2, 0, v2), (3, 0, v3), (4, 0, v4), (5, 0, v5), (8, 0, v8), (9, 0, v9), (10, 1, v10), (12, 0, v12)] [] m (fun r m1 => gh_F m1 ∧ Q r m1) := by
  have hK16 := hK
  unfold f_Model_openParts_16 at h
  refine gh_iload gd_Model_openParts_16 9 rfl ?_
  refine gh_aload_n gd_Model_openParts_18 0 rfl (by decide) ?_
  refine gf_63_33 gd_Model_openParts_19 gh_k1403 hF ?_
  refine gh_iload_n gd_Model_openParts_22 1 rfl ?_
  obtain ⟨q4331, h⟩ := h
  obtain ⟨q4332, h⟩ := h
  refine la_80 gd_Model_openParts_23 hF q4331 q4332 rfl ?_
  obtain ⟨hA, hB⟩ := h
  refine gh_jge (tgt := 248) gd_Model_openParts_24 (by decide) (fun c4333 => ?_) (fun c4333 => ?_)
  · have h := hA c4333
    refine gh_aload_n gd_Model_openParts_27 0 rfl (by decide) ?_
    refine gf_63_34 gd_Model_openParts_28 gh_k1404 hF ?_
    refine gh_iconst gd_Model_openParts_31 (gh_r0 rfl) ?_
    refine gh_iload_n gd_Model_openParts_32 1 rfl ?_
    obtain ⟨q4334, h⟩ := h
    refine gh_imul gd_Model_openParts_33 q4334 ?_
    refine gh_iload gd_Model_openParts_34 9 rfl ?_
    obtain ⟨q4335, h⟩ := h
    refine gh_iadd gd_Model_openParts_36 q4335 ?_
    obtain ⟨q4336, h⟩ := h
    obtain ⟨q4337, h⟩ := h
    refine la_81 gd_Model_openParts_37 hF q4336 q4337 rfl ?_
    refine gh_name (fun v13 hn => ?_)
    have h := h v13 hn
    refine gh_istore (L2 := [(13, 0, v13), (0, 2, 63), (1, 0, v1), (2, 0, v2), (3, 0, v3), (4, 0, v4), (5, 0, v5), (8, 0, v8), (9, 0, v9), (10, 1, v10), (12, 0, v12)]) gd_Model_openParts_38 (by decide) rfl ?_
    refine gh_iload gd_Model_openParts_40 8 rfl ?_
    refine gh_istore (L2 := [(14, 0, v9), (13, 0, v13), (0, 2, 63), (1, 0, v1), (2, 0, v2), (3, 0, v3), (4, 0, v4), (5, 0, v5), (8, 0, v8), (9, 0, v9), (10, 1, v10), (12, 0, v12)]) gd_Model_openParts_42 (by decide) rfl ?_
    refine gh_aload_n gd_Model_openParts_44 2 rfl (by decide) ?_
    refine gh_iload gd_Model_openParts_45 1 rfl ?_
    refine gh_iload gd_Model_openParts_47 9 rfl ?_
    refine gh_iload gd_Model_openParts_49 0 rfl ?_
    refine gh_iload_n gd_Model_openParts_51 4 rfl ?_
    refine gh_iload_n gd_Model_openParts_52 5 rfl ?_
    refine gh_iload gd_Model_openParts_53 6 rfl ?_
    refine cv_Model_countOf (d := d + 2) gd_Model_openParts_55 gh_k1996 hF (Nat.le_of_ble_eq_true rfl) (gh_C.pw (s_Model_countOf d v13 v9 v9 v2 v3 v4 hF h) (fun r4338 h => ?_))
    refine gh_aload_n gd_Model_openParts_58 2 rfl (by decide) ?_
    refine gf_63_67 gd_Model_openParts_59 gh_k1437 hF ?_
    refine gh_bipush gd_Model_openParts_62 (by decide) (gh_r0 rfl) ?_
    refine gh_iload gd_Model_openParts_64 11 rfl ?_
    obtain ⟨q4340, h⟩ := h
    refine gh_imul gd_Model_openParts_66 q4340 ?_
    refine gh_bipush gd_Model_openParts_67 (by decide) (gh_r0 rfl) ?_
    obtain ⟨q4341, h⟩ := h
    refine gh_iadd gd_Model_openParts_69 q4341 ?_
    refine gh_iload gd_Model_openParts_70 0 rfl ?_
    obtain ⟨q4342, h⟩ := h
    refine gh_iadd gd_Model_openParts_72 q4342 ?_
    obtain ⟨q4343, h⟩ := h
    obtain ⟨q4344, h⟩ := h
    refine la_108 gd_Model_openParts_73 hF q4343 q4344 rfl ?_
    obtain ⟨q4345, h⟩ := h
    refine cv_Model_times (d := d + 2) gd_Model_openParts_74 gh_k2000 (Nat.le_of_ble_eq_true rfl) (gh_C.pe (e_Model_times (d + 2) r4338 (m 108 (((9 * v12) + 9) + v9)) q4345) ?_)
    refine gh_name (fun v15 hn => ?_)
    have h := h v15 hn
    refine gh_lstore (L2 := [(15, 1, v15), (14, 0, v9), (13, 0, v13), (0, 2, 63), (1, 0, v1), (2, 0, v2), (3, 0, v3), (4, 0, v4), (5, 0, v5), (8, 0, v8), (9, 0, v9), (10, 1, v10), (12, 0, v12)]) gd_Model_openParts_77 (by decide) rfl ?_
    refine gh_pick (L2 := [(0, 2, 63), (1, 0, v1), (2, 0, v2), (3, 0, v3), (4, 0, v4), (5, 0, v5), (8, 0, v8), (9, 0, v9), (10, 1, v10), (12, 0, v12), (13, 0, v13), (14, 0, v9), (15, 1, v15)]) [3, 4, 5, 6, 7, 8, 9, 10, 11, 12, 2, 1, 0] rfl ?_
    exact gh_L3_sound (T := fun v10 v14 v15 => gh_T E (gh_yModel_openParts.cls, prog_14_method_99_code, 20, false, 9) (d + 3) 79 [(0, 2, 63), (1, 0, v1), (2, 0, v2), (3, 0, v3), (4, 0, v4), (5, 0, v5), (8, 0, v8), (9, 0, v9), (10, 1, v10), (12, 0, v12), (13, 0, v13), (14, 0, v14), (15, 1, v15)] [] m (fun r m1 => gh_F m1 ∧ Q r m1)) (fun _ _ _ => gh_F m) (fun K79 v10 v14 v15 hK hF h => b_Model_openParts_79 d hK16 hK v10 v14 v15 hF h) v10 v9 v15 hF h
  · have h := hB c4333
    refine gh_iconst gd_Model_openParts_248 (gh_r0 rfl) ?_
    refine gh_istore (L2 := [(12, 0, 0), (0, 2, 63), (1, 0, v1), (2, 0, v2), (3, 0, v3), (4, 0, v4), (5, 0, v5), (8, 0, v8), (9, 0, v9), (10, 1, v10)]) gd_Model_openParts_249 (by decide) rfl ?_
    refine gh_pick (L2 := [(0, 2, 63), (8, 0, v8), (12, 0, 0)]) [1, 7, 0] rfl ?_
    exact gh_M1_sound (T := fun v12 m => gh_T E (gh_yModel_openParts.cls, prog_14_method_99_code, 20, false, 9) (d + 3) 251 [(0, 2, 63), (8, 0, v8), (12, 0, v12)] [] m (fun r m1 => gh_F m1 ∧ Q r m1)) (fun _ m => gh_F m) (fun K251 v12 m hK hF h => b_Model_openParts_251 d hK v12 m hF h) 0 m hF h
theorem s_Model_openParts {E : gh_E} {m : gh_M} {Q : Int → gh_M → Prop} (d : Nat) (v1 : Int) (v2 : Int) (v3 : Int) (v4 : Int) (v5 : Int) (v6 : Int) (hF : gh_F m) (h : w_Model_openParts v1 v2 v3 v4 v5 v6 m Q) : gh_C E gh_yModel_openParts prog_14_method_99_code 20 none 9 (d + 3) [(2, 63), (0, v1), (0, v2), (0, v3), (0, v4), (0, v5), (1, v6)] m (fun r m1 => gh_F m1 ∧ Q r m1) := by
  refine gh_enter2 (L := [(0, 2, 63), (1, 0, v1), (2, 0, v2), (3, 0, v3), (4, 0, v4), (5, 0, v5), (6, 1, v6)]) (by decide +kernel) gh_rt9 (Nat.le_of_ble_eq_true rfl) rfl rfl ?_
  unfold w_Model_openParts at h
  refine gh_aload_n gd_Model_openParts_0 0 rfl (by decide) ?_
  refine gf_63_80 gd_Model_openParts_1 gh_k1450 hF rfl ?_
  refine gh_name (fun v8 hn => ?_)
  have h := h v8 hn
  refine gh_istore (L2 := [(8, 0, v8), (0, 2, 63), (1, 0, v1), (2, 0, v2), (3, 0, v3), (4, 0, v4), (5, 0, v5), (6, 1, v6)]) gd_Model_openParts_4 (by decide) rfl ?_
  refine gh_iload_n gd_Model_openParts_6 3 rfl ?_
  refine gh_istore (L2 := [(9, 0, v2), (8, 0, v8), (0, 2, 63), (1, 0, v1), (2, 0, v2), (3, 0, v3), (4, 0, v4), (5, 0, v5), (6, 1, v6)]) gd_Model_openParts_7 (by decide) rfl ?_
  refine gh_lload gd_Model_openParts_9 8 rfl ?_
  refine gh_lstore (L2 := [(10, 1, v6), (9, 0, v2), (8, 0, v8), (0, 2, 63), (1, 0, v1), (2, 0, v2), (3, 0, v3), (4, 0, v4), (5, 0, v5), (6, 1, v6)]) gd_Model_openParts_11 (by decide) rfl ?_
  refine gh_iconst gd_Model_openParts_13 (gh_r0 rfl) ?_
  refine gh_istore (L2 := [(12, 0, 0), (10, 1, v6), (9, 0, v2), (8, 0, v8), (0, 2, 63), (1, 0, v1), (2, 0, v2), (3, 0, v3), (4, 0, v4), (5, 0, v5), (6, 1, v6)]) gd_Model_openParts_14 (by decide) rfl ?_
  refine gh_pick (L2 := [(0, 2, 63), (1, 0, v1), (2, 0, v2), (3, 0, v3), (4, 0, v4), (5, 0, v5), (8, 0, v8), (9, 0, v2), (10, 1, v6), (12, 0, 0)]) [4, 5, 6, 7, 8, 9, 3, 2, 1, 0] rfl ?_
  exact gh_M3_sound (T := fun v9 v10 v12 m => gh_T E (gh_yModel_openParts.cls, prog_14_method_99_code, 20, false, 9) (d + 3) 16 [(0, 2, 63), (1, 0, v1), (2, 0, v2), (3, 0, v3), (4, 0, v4), (5, 0, v5), (8, 0, v8), (9, 0, v9), (10, 1, v10), (12, 0, v12)] [] m (fun r m1 => gh_F m1 ∧ Q r m1)) (fun _ _ _ m => gh_F m) (fun K16 v9 v10 v12 m hK hF h => b_Model_openParts_16 d hK v9 v10 v12 m hF h) v2 v6 0 m hF h
def f_Model_takeStep_144 (v2 : Int) (v3 : Int) (v4 : Int) (v5 : Int) (Q : Int → gh_M → Prop) (K144 : Int → Int → gh_M → Prop) (v6 : Int) (v8 : Int) (m : gh_M) : Prop := 0 ≤ v2 ∧ v2 < 45 ∧ ((v6 < (m 108 v2) → 0 ≤ m 63 71 ∧ (m 63 71) < 300 ∧ gh_i ((m 63 71) + 1) ∧ w_Model_openParts v8 v2 v3 v4 v5 v6 (gh_u (gh_u m 110 (m 63 71) v8) 63 71 ((m 63 71) + 1)) (fun _ m4423 => Q 0 m4423)) ∧ (¬ (v6 < (m 108 v2)) → 0 ≤ v2 ∧ v2 < 45 ∧ gh_j (v6 - (m 108 v2)) ∧ ∀ v6' : Int, v6' = v6 - (m 108 v2) → gh_i (v8 + 1) ∧ w_Model_layWays (v8 + 1) v2 v3 v4 m (fun _ m4429 => K144 v6' (v8 + 1) m4429)))
def w_Model_takeStep (m : gh_M) (Q : Int → gh_M → Prop) : Prop := gh_i ((m 63 80) - 1) ∧ 0 ≤ ((m 63 80) - 1) ∧ (((m 63 80) - 1)) < 1300 ∧ ∀ v1 : Int, v1 = m 111 (((m 63 80) - 1)) → ((v1 < 0 → 0 ≤ m 63 71 ∧ (m 63 71) < 300 ∧ gh_i ((m 63 71) + 1) ∧ Q 0 (gh_u (gh_u (gh_u m 63 80 ((m 63 80) - 1)) 110 (m 63 71) v1) 63 71 ((m 63 71) + 1))) ∧ (¬ (v1 < 0) → 0 ≤ ((m 63 80) - 1) ∧ (((m 63 80) - 1)) < 1300 ∧ ∀ v2 : Int, v2 = m 112 (((m 63 80) - 1)) → 0 ≤ ((m 63 80) - 1) ∧ (((m 63 80) - 1)) < 1300 ∧ ∀ v3 : Int, v3 = m 113 (((m 63 80) - 1)) → 0 ≤ ((m 63 80) - 1) ∧ (((m 63 80) - 1)) < 1300 ∧ ∀ v4 : Int, v4 = gh_ior_f (m 114 (((m 63 80) - 1))) (gh_ishl_f 1 v1) → 0 ≤ ((m 63 80) - 1) ∧ (((m 63 80) - 1)) < 1300 ∧ gh_i ((m 115 (((m 63 80) - 1))) + 1) ∧ ∀ v5 : Int, v5 = (m 115 (((m 63 80) - 1))) + 1 → 0 ≤ ((m 63 80) - 1) ∧ (((m 63 80) - 1)) < 1300 ∧ ∀ v6 : Int, v6 = m 116 (((m 63 80) - 1)) → 0 ≤ v1 ∧ v1 < 8 ∧ ∀ v8 : Int, v8 = m 77 v1 → w_Model_layWays v8 v2 v3 v4 (gh_u (gh_u m 63 80 ((m 63 80) - 1)) 63 73 (if v5 ≤ (m 63 73) then (m 63 73) else v5)) (fun _ m4415 => gh_M2 (fun K144 v6 v8 m => f_Model_takeStep_144 v2 v3 v4 v5 Q K144 v6 v8 m) v6 v8 m4415)))
theorem b_Model_takeStep_144 {E : gh_E} {v2 : Int} {v3 : Int} {v4 : Int} {v5 : Int} {Q : Int → gh_M → Prop} {K144 : Int → Int → gh_M → Prop} (d : Nat) (hK : ∀ (v6 : Int) (v8 : Int) (m : gh_M), gh_F m → K144 v6 v8 m → gh_T E (gh_yModel_takeStep.cls, prog_14_method_101_code, 9, false, 9) (d + 4) 144 [(0, 2, 63), (2, 0, v2), (3, 0, v3), (4, 0, v4), (5, 0, v5), (6, 1, v6), (8, 0, v8)] [] m (fun r m1 => gh_F m1 ∧ Q r m1)) (v6 : Int) (v8 : Int) (m : gh_M) (hF : gh_F m) (h : f_Model_takeStep_144 v2 v3 v4 v5 Q K144 v6 v8 m) : gh_T E (gh_yModel_takeStep.cls, prog_14_method_101_code, 9, false, 9) (d + 4) 144 [(0, 2, 63), (2, 0, v2), (3, 0, v3), (4, 0, v4), (5, 0, v5), (6, 1, v6), (8, 0, v8)] [] m (fun r m1 => gh_F m1 ∧ Q r m1) := by
  have hK144 := hK
  unfold f_Model_takeStep_144 at h
  refine gh_lload gd_Model_takeStep_144 5 rfl ?_
  refine gh_aload_n gd_Model_takeStep_146 0 rfl (by decide) ?_
  refine gf_63_67 gd_Model_takeStep_147 gh_k1437 hF ?_
  refine gh_iload_n gd_Model_takeStep_150 1 rfl ?_
  obtain ⟨q4416, h⟩ := h
  obtain ⟨q4417, h⟩ := h
  refine la_108 gd_Model_takeStep_151 hF q4416 q4417 rfl ?_
  refine gh_lcmp gd_Model_takeStep_152 ?_
  obtain ⟨hA, hB⟩ := h
  refine gh_clt (tgt := 183) gd_Model_takeStep_153 (by decide) (fun c4418 => ?_) (fun c4418 => ?_)
  · have h := hA c4418
    refine gh_aload_n gd_Model_takeStep_183 0 rfl (by decide) ?_
    refine gf_63_72 gd_Model_takeStep_184 gh_k1442 hF ?_
    refine gh_aload_n gd_Model_takeStep_187 0 rfl (by decide) ?_
    refine gf_63_71 gd_Model_takeStep_188 gh_k1441 hF rfl ?_
    refine gh_iload gd_Model_takeStep_191 6 rfl ?_
    obtain ⟨q4419, h⟩ := h
    obtain ⟨q4420, h⟩ := h
    refine sa_110 gd_Model_takeStep_193 hF q4419 q4420 (fun hF => ?_)
    refine gh_aload_n gd_Model_takeStep_194 0 rfl (by decide) ?_
    refine gh_dup gd_Model_takeStep_195 (by decide) ?_
    refine gf_63_71 gd_Model_takeStep_196 gh_k1441 hF (gh_u_a (by decide)) ?_
    refine gh_iconst gd_Model_takeStep_199 (gh_r0 rfl) ?_
    obtain ⟨q4421, h⟩ := h
    refine gh_iadd gd_Model_takeStep_200 q4421 ?_
    refine pf_63_71 gd_Model_takeStep_201 gh_k1441 hF (fun hF => ?_)
    refine gh_aload_n gd_Model_takeStep_204 0 rfl (by decide) ?_
    refine gh_iload gd_Model_takeStep_205 6 rfl ?_
    refine gh_iload_n gd_Model_takeStep_207 1 rfl ?_
    refine gh_iload_n gd_Model_takeStep_208 2 rfl ?_
    refine gh_iload gd_Model_takeStep_209 3 rfl ?_
    refine gh_iload gd_Model_takeStep_211 4 rfl ?_
    refine gh_lload gd_Model_takeStep_213 5 rfl ?_
    refine cv_Model_openParts (d := d + 3) gd_Model_takeStep_215 gh_k2021 hF (Nat.le_of_ble_eq_true rfl) (gh_C.mono (s_Model_openParts d v8 v2 v3 v4 v5 v6 hF h) (fun r4422 m4423 hq => ?_))
    obtain ⟨hF, h⟩ := hq
    exact gh_ret9 rfl gd_Model_takeStep_218 ⟨hF, h⟩
  · have h := hB c4418
    refine gh_lload gd_Model_takeStep_156 5 rfl ?_
    refine gh_aload_n gd_Model_takeStep_158 0 rfl (by decide) ?_
    refine gf_63_67 gd_Model_takeStep_159 gh_k1437 hF ?_
    refine gh_iload_n gd_Model_takeStep_162 1 rfl ?_
    obtain ⟨q4424, h⟩ := h
    obtain ⟨q4425, h⟩ := h
    refine la_108 gd_Model_takeStep_163 hF q4424 q4425 rfl ?_
    obtain ⟨q4426, h⟩ := h
    refine gh_lsub gd_Model_takeStep_164 q4426 ?_
    refine gh_name (fun v6' hn => ?_)
    have h := h v6' hn
    refine gh_lstore (L2 := [(6, 1, v6'), (0, 2, 63), (2, 0, v2), (3, 0, v3), (4, 0, v4), (5, 0, v5), (8, 0, v8)]) gd_Model_takeStep_165 (by decide) rfl ?_
    obtain ⟨q4427, h⟩ := h
    refine gh_iinc (L2 := [(8, 0, v8 + 1), (6, 1, v6'), (0, 2, 63), (2, 0, v2), (3, 0, v3), (4, 0, v4), (5, 0, v5)]) gd_Model_takeStep_167 6 rfl q4427 (by decide) rfl ?_
    refine gh_aload_n gd_Model_takeStep_170 2 rfl (by decide) ?_
    refine gh_iload gd_Model_takeStep_171 0 rfl ?_
    refine gh_iload_n gd_Model_takeStep_173 3 rfl ?_
    refine gh_iload_n gd_Model_takeStep_174 4 rfl ?_
    refine gh_iload gd_Model_takeStep_175 5 rfl ?_
    refine cv_Model_layWays (d := d + 3) gd_Model_takeStep_177 gh_k1992 hF (Nat.le_of_ble_eq_true rfl) (gh_C.mono (s_Model_layWays d (v8 + 1) v2 v3 v4 hF h) (fun r4428 m4429 hq => ?_))
    obtain ⟨hF, h⟩ := hq
    refine gh_goto (tgt := 144) gd_Model_takeStep_180 (by decide) ?_
    refine gh_pick (L2 := [(0, 2, 63), (2, 0, v2), (3, 0, v3), (4, 0, v4), (5, 0, v5), (6, 1, v6'), (8, 0, v8 + 1)]) [2, 3, 4, 5, 6, 1, 0] rfl ?_
    exact hK144 v6' (v8 + 1) m4429 hF h
theorem s_Model_takeStep {E : gh_E} {m : gh_M} {Q : Int → gh_M → Prop} (d : Nat) (hF : gh_F m) (h : w_Model_takeStep m Q) : gh_C E gh_yModel_takeStep prog_14_method_101_code 9 none 9 (d + 4) [(2, 63)] m (fun r m1 => gh_F m1 ∧ Q r m1) := by
  refine gh_enter2 (L := [(0, 2, 63)]) (by decide +kernel) gh_rt9 (Nat.le_of_ble_eq_true rfl) rfl rfl ?_
  unfold w_Model_takeStep at h
  refine gh_aload_n gd_Model_takeStep_0 0 rfl (by decide) ?_
  refine gh_dup gd_Model_takeStep_1 (by decide) ?_
  refine gf_63_80 gd_Model_takeStep_2 gh_k1450 hF rfl ?_
  refine gh_iconst gd_Model_takeStep_5 (gh_r0 rfl) ?_
  obtain ⟨q4392, h⟩ := h
  refine gh_isub gd_Model_takeStep_6 q4392 ?_
  refine pf_63_80 gd_Model_takeStep_7 gh_k1450 hF (fun hF => ?_)
  refine gh_aload_n gd_Model_takeStep_10 0 rfl (by decide) ?_
  refine gf_63_74 gd_Model_takeStep_11 gh_k1444 hF ?_
  refine gh_aload_n gd_Model_takeStep_14 0 rfl (by decide) ?_
  refine gf_63_80 gd_Model_takeStep_15 gh_k1450 hF (gh_u_s _ _ _ _) ?_
  obtain ⟨q4393, h⟩ := h
  obtain ⟨q4394, h⟩ := h
  refine la_111 gd_Model_takeStep_18 hF q4393 q4394 (gh_u_a (by decide)) ?_
  refine gh_name (fun v1 hn => ?_)
  have h := h v1 hn
  refine gh_istore_n (L2 := [(1, 0, v1), (0, 2, 63)]) gd_Model_takeStep_19 (by decide) rfl ?_
  refine gh_iload_n gd_Model_takeStep_20 0 rfl ?_
  obtain ⟨hA, hB⟩ := h
  refine gh_zge (tgt := 45) gd_Model_takeStep_21 (by decide) (fun c4395 => ?_) (fun c4395 => ?_)
  · have h := hA c4395
    refine gh_aload_n gd_Model_takeStep_24 1 rfl (by decide) ?_
    refine gf_63_72 gd_Model_takeStep_25 gh_k1442 hF ?_
    refine gh_aload_n gd_Model_takeStep_28 1 rfl (by decide) ?_
    refine gf_63_71 gd_Model_takeStep_29 gh_k1441 hF (gh_u_i (by decide)) ?_
    refine gh_iload_n gd_Model_takeStep_32 0 rfl ?_
    obtain ⟨q4396, h⟩ := h
    obtain ⟨q4397, h⟩ := h
    refine sa_110 gd_Model_takeStep_33 hF q4396 q4397 (fun hF => ?_)
    refine gh_aload_n gd_Model_takeStep_34 1 rfl (by decide) ?_
    refine gh_dup gd_Model_takeStep_35 (by decide) ?_
    refine gf_63_71 gd_Model_takeStep_36 gh_k1441 hF ((gh_u_a (by decide)).trans (gh_u_i (by decide))) ?_
    refine gh_iconst gd_Model_takeStep_39 (gh_r0 rfl) ?_
    obtain ⟨q4398, h⟩ := h
    refine gh_iadd gd_Model_takeStep_40 q4398 ?_
    refine pf_63_71 gd_Model_takeStep_41 gh_k1441 hF (fun hF => ?_)
    exact gh_ret9 rfl gd_Model_takeStep_44 ⟨hF, h⟩
  · have h := hB c4395
    refine gh_aload_n gd_Model_takeStep_45 1 rfl (by decide) ?_
    refine gf_63_75 gd_Model_takeStep_46 gh_k1445 hF ?_
    refine gh_aload_n gd_Model_takeStep_49 1 rfl (by decide) ?_
    refine gf_63_80 gd_Model_takeStep_50 gh_k1450 hF (gh_u_s _ _ _ _) ?_
    obtain ⟨q4399, h⟩ := h
    obtain ⟨q4400, h⟩ := h
    refine la_112 gd_Model_takeStep_53 hF q4399 q4400 (gh_u_a (by decide)) ?_
    refine gh_name (fun v2 hn => ?_)
    have h := h v2 hn
    refine gh_istore_n (L2 := [(2, 0, v2), (1, 0, v1), (0, 2, 63)]) gd_Model_takeStep_54 (by decide) rfl ?_
    refine gh_aload_n gd_Model_takeStep_55 2 rfl (by decide) ?_
    refine gf_63_76 gd_Model_takeStep_56 gh_k1446 hF ?_
    refine gh_aload_n gd_Model_takeStep_59 2 rfl (by decide) ?_
    refine gf_63_80 gd_Model_takeStep_60 gh_k1450 hF (gh_u_s _ _ _ _) ?_
    obtain ⟨q4401, h⟩ := h
    obtain ⟨q4402, h⟩ := h
    refine la_113 gd_Model_takeStep_63 hF q4401 q4402 (gh_u_a (by decide)) ?_
    refine gh_name (fun v3 hn => ?_)
    have h := h v3 hn
    refine gh_istore_n (L2 := [(3, 0, v3), (2, 0, v2), (1, 0, v1), (0, 2, 63)]) gd_Model_takeStep_64 (by decide) rfl ?_
    refine gh_aload_n gd_Model_takeStep_65 3 rfl (by decide) ?_
    refine gf_63_77 gd_Model_takeStep_66 gh_k1447 hF ?_
    refine gh_aload_n gd_Model_takeStep_69 3 rfl (by decide) ?_
    refine gf_63_80 gd_Model_takeStep_70 gh_k1450 hF (gh_u_s _ _ _ _) ?_
    obtain ⟨q4403, h⟩ := h
    obtain ⟨q4404, h⟩ := h
    refine la_114 gd_Model_takeStep_73 hF q4403 q4404 (gh_u_a (by decide)) ?_
    refine gh_iconst gd_Model_takeStep_74 (gh_r0 rfl) ?_
    refine gh_iload_n gd_Model_takeStep_75 2 rfl ?_
    refine gh_ishl gd_Model_takeStep_76 ?_
    refine gh_ior gd_Model_takeStep_77 ?_
    refine gh_name (fun v4 hn => ?_)
    have h := h v4 hn
    refine gh_istore (L2 := [(4, 0, v4), (3, 0, v3), (2, 0, v2), (1, 0, v1), (0, 2, 63)]) gd_Model_takeStep_78 (by decide) rfl ?_
    refine gh_aload_n gd_Model_takeStep_80 4 rfl (by decide) ?_
    refine gf_63_78 gd_Model_takeStep_81 gh_k1448 hF ?_
    refine gh_aload_n gd_Model_takeStep_84 4 rfl (by decide) ?_
    refine gf_63_80 gd_Model_takeStep_85 gh_k1450 hF (gh_u_s _ _ _ _) ?_
    obtain ⟨q4405, h⟩ := h
    obtain ⟨q4406, h⟩ := h
    refine la_115 gd_Model_takeStep_88 hF q4405 q4406 (gh_u_a (by decide)) ?_
    refine gh_iconst gd_Model_takeStep_89 (gh_r0 rfl) ?_
    obtain ⟨q4407, h⟩ := h
    refine gh_iadd gd_Model_takeStep_90 q4407 ?_
    refine gh_name (fun v5 hn => ?_)
    have h := h v5 hn
    refine gh_istore (L2 := [(5, 0, v5), (4, 0, v4), (3, 0, v3), (2, 0, v2), (1, 0, v1), (0, 2, 63)]) gd_Model_takeStep_91 (by decide) rfl ?_
    refine gh_aload_n gd_Model_takeStep_93 5 rfl (by decide) ?_
    refine gf_63_79 gd_Model_takeStep_94 gh_k1449 hF ?_
    refine gh_aload_n gd_Model_takeStep_97 5 rfl (by decide) ?_
    refine gf_63_80 gd_Model_takeStep_98 gh_k1450 hF (gh_u_s _ _ _ _) ?_
    obtain ⟨q4408, h⟩ := h
    obtain ⟨q4409, h⟩ := h
    refine la_116 gd_Model_takeStep_101 hF q4408 q4409 (gh_u_a (by decide)) ?_
    refine gh_name (fun v6 hn => ?_)
    have h := h v6 hn
    refine gh_lstore (L2 := [(6, 1, v6), (5, 0, v5), (4, 0, v4), (3, 0, v3), (2, 0, v2), (1, 0, v1), (0, 2, 63)]) gd_Model_takeStep_102 (by decide) rfl ?_
    refine gh_aload_n gd_Model_takeStep_104 6 rfl (by decide) ?_
    refine gh_iload gd_Model_takeStep_105 1 rfl ?_
    refine gh_aload_n gd_Model_takeStep_107 6 rfl (by decide) ?_
    refine gf_63_73 gd_Model_takeStep_108 gh_k1443 hF (gh_u_i (by decide)) ?_
    have k4410 : ∀ x4411 : Int, x4411 = (if v5 ≤ (m 63 73) then (m 63 73) else v5) → gh_T E (gh_yModel_takeStep.cls, prog_14_method_101_code, 9, false, 9) (d + 4) 123 [(6, 1, v6), (5, 0, v5), (4, 0, v4), (3, 0, v3), (2, 0, v2), (1, 0, v1), (0, 2, 63)] [(0, x4411), (2, 63)] (gh_u m 63 80 ((m 63 80) - 1)) (fun r m1 => gh_F m1 ∧ Q r m1) := by
      rintro _ rfl
      refine pf_63_73 gd_Model_takeStep_123 gh_k1443 hF (fun hF => ?_)
      refine gh_aload_n gd_Model_takeStep_126 6 rfl (by decide) ?_
      refine gf_63_30 gd_Model_takeStep_127 gh_k1400 hF ?_
      refine gh_iload_n gd_Model_takeStep_130 5 rfl ?_
      obtain ⟨q4412, h⟩ := h
      obtain ⟨q4413, h⟩ := h
      refine la_77 gd_Model_takeStep_131 hF q4412 q4413 ((gh_u_a (by decide)).trans (gh_u_a (by decide))) ?_
      refine gh_name (fun v8 hn => ?_)
      have h := h v8 hn
      refine gh_istore (L2 := [(8, 0, v8), (6, 1, v6), (5, 0, v5), (4, 0, v4), (3, 0, v3), (2, 0, v2), (1, 0, v1), (0, 2, 63)]) gd_Model_takeStep_132 (by decide) rfl ?_
      refine gh_aload_n gd_Model_takeStep_134 7 rfl (by decide) ?_
      refine gh_iload gd_Model_takeStep_135 0 rfl ?_
      refine gh_iload_n gd_Model_takeStep_137 5 rfl ?_
      refine gh_iload_n gd_Model_takeStep_138 4 rfl ?_
      refine gh_iload gd_Model_takeStep_139 3 rfl ?_
      refine cv_Model_layWays (d := d + 3) gd_Model_takeStep_141 gh_k1992 hF (Nat.le_of_ble_eq_true rfl) (gh_C.mono (s_Model_layWays d v8 v2 v3 v4 hF h) (fun r4414 m4415 hq => ?_))
      obtain ⟨hF, h⟩ := hq
      refine gh_pick (L2 := [(0, 2, 63), (2, 0, v2), (3, 0, v3), (4, 0, v4), (5, 0, v5), (6, 1, v6), (8, 0, v8)]) [7, 5, 4, 3, 2, 1, 0] rfl ?_
      exact gh_M2_sound (T := fun v6 v8 m => gh_T E (gh_yModel_takeStep.cls, prog_14_method_101_code, 9, false, 9) (d + 4) 144 [(0, 2, 63), (2, 0, v2), (3, 0, v3), (4, 0, v4), (5, 0, v5), (6, 1, v6), (8, 0, v8)] [] m (fun r m1 => gh_F m1 ∧ Q r m1)) (fun _ _ m => gh_F m) (fun K144 v6 v8 m hK hF h => b_Model_takeStep_144 d hK v6 v8 m hF h) v6 v8 m4415 hF h
    refine gh_jle (tgt := 119) gd_Model_takeStep_111 (by decide) (fun c4430 => ?_) (fun c4430 => ?_)
    · have hz : True := trivial
      refine gh_aload_n gd_Model_takeStep_119 6 rfl (by decide) ?_
      refine gf_63_73 gd_Model_takeStep_120 gh_k1443 hF (gh_u_i (by decide)) ?_
      exact k4410 _ (by rw [if_pos c4430])
    · have hz : True := trivial
      refine gh_iload gd_Model_takeStep_114 1 rfl ?_
      refine gh_goto (tgt := 123) gd_Model_takeStep_116 (by decide) ?_
      exact k4410 _ (by rw [if_neg c4430])
def f_Model_pick_120 (Q : Int → gh_M → Prop) (K120 : Int → gh_M → Prop) (v3 : Int) (m : gh_M) : Prop := ((v3 < (m 63 68) → 0 ≤ v3 ∧ v3 < 300 ∧ 0 ≤ v3 ∧ v3 < 300 ∧ gh_i (v3 + 1) ∧ K120 (v3 + 1) (gh_u m 109 v3 (m 110 v3))) ∧ (¬ (v3 < (m 63 68)) → Q (m 63 68) m))
def f_Model_pick_74 (Q : Int → gh_M → Prop) (K74 : gh_M → Prop) (m : gh_M) : Prop := (((m 63 80) ≤ 0 → gh_M1 (fun K120 v3 m => f_Model_pick_120 Q K120 v3 m) 0 (gh_u (gh_u m 63 68 (m 63 71)) 63 70 (m 63 73))) ∧ (¬ ((m 63 80) ≤ 0) → (((m 63 71) = 300 → Q (-1004) m) ∧ (¬ ((m 63 71) = 300) → w_Model_takeStep m (fun _ m4448 => K74 m4448)))))
def w_Model_pick (v1 : Int) (m : gh_M) (Q : Int → gh_M → Prop) : Prop := (((¬ (v1 < 0) ∧ (v1 ≤ 999999999999999999)) → (((m 63 24) = 0 → Q (-1003) m) ∧ (¬ ((m 63 24) = 0) → w_Model_countTrees 0 0 (m 63 50) m (fun r4434 m4435 => ((v1 < r4434 → w_Model_opn 0 0 (m4435 63 50) 0 0 v1 (gh_u (gh_u (gh_u m4435 63 71 0) 63 73 0) 63 80 0) (fun _ m4438 => gh_M0 (fun K74 m => f_Model_pick_74 Q K74 m) m4438)) ∧ (¬ (v1 < r4434) → Q (-1) m4435)))))) ∧ (¬ (¬ (v1 < 0) ∧ (v1 ≤ 999999999999999999)) → Q (-1002) m))
theorem b_Model_pick_120 {E : gh_E} {Q : Int → gh_M → Prop} {K120 : Int → gh_M → Prop} (d : Nat) (hK : ∀ (v3 : Int) (m : gh_M), gh_F m → K120 v3 m → gh_T E (gh_yModel_pick.cls, prog_14_method_102_code, 4, false, 0) (d + 5) 120 [(0, 2, 63), (3, 0, v3)] [] m (fun r m1 => gh_F m1 ∧ Q r m1)) (v3 : Int) (m : gh_M) (hF : gh_F m) (h : f_Model_pick_120 Q K120 v3 m) : gh_T E (gh_yModel_pick.cls, prog_14_method_102_code, 4, false, 0) (d + 5) 120 [(0, 2, 63), (3, 0, v3)] [] m (fun r m1 => gh_F m1 ∧ Q r m1) := by
  have hK120 := hK
  unfold f_Model_pick_120 at h
  refine gh_iload_n gd_Model_pick_120 1 rfl ?_
  refine gh_aload_n gd_Model_pick_121 0 rfl (by decide) ?_
  refine gf_63_68 gd_Model_pick_122 gh_k1438 hF rfl ?_
  obtain ⟨hA, hB⟩ := h
  refine gh_jge (tgt := 146) gd_Model_pick_125 (by decide) (fun c4440 => ?_) (fun c4440 => ?_)
  · have h := hA c4440
    refine gh_aload_n gd_Model_pick_128 0 rfl (by decide) ?_
    refine gf_63_69 gd_Model_pick_129 gh_k1439 hF ?_
    refine gh_iload_n gd_Model_pick_132 1 rfl ?_
    refine gh_aload_n gd_Model_pick_133 0 rfl (by decide) ?_
    refine gf_63_72 gd_Model_pick_134 gh_k1442 hF ?_
    refine gh_iload_n gd_Model_pick_137 1 rfl ?_
    obtain ⟨q4441, h⟩ := h
    obtain ⟨q4442, h⟩ := h
    refine la_110 gd_Model_pick_138 hF q4441 q4442 rfl ?_
    obtain ⟨q4443, h⟩ := h
    obtain ⟨q4444, h⟩ := h
    refine sa_109 gd_Model_pick_139 hF q4443 q4444 (fun hF => ?_)
    obtain ⟨q4445, h⟩ := h
    refine gh_iinc (L2 := [(3, 0, v3 + 1), (0, 2, 63)]) gd_Model_pick_140 1 rfl q4445 (by decide) rfl ?_
    refine gh_goto (tgt := 120) gd_Model_pick_143 (by decide) ?_
    refine gh_pick (L2 := [(0, 2, 63), (3, 0, v3 + 1)]) [1, 0] rfl ?_
    exact hK120 (v3 + 1) (gh_u m 109 v3 (m 110 v3)) hF h
  · have h := hB c4440
    refine gh_aload_n gd_Model_pick_146 0 rfl (by decide) ?_
    refine gf_63_68 gd_Model_pick_147 gh_k1438 hF rfl ?_
    exact gh_ret0 rfl gd_Model_pick_150 ⟨hF, h⟩
theorem b_Model_pick_74 {E : gh_E} {Q : Int → gh_M → Prop} {K74 : gh_M → Prop} (d : Nat) (hK : ∀ (m : gh_M), gh_F m → K74 m → gh_T E (gh_yModel_pick.cls, prog_14_method_102_code, 4, false, 0) (d + 5) 74 [(0, 2, 63)] [] m (fun r m1 => gh_F m1 ∧ Q r m1)) (m : gh_M) (hF : gh_F m) (h : f_Model_pick_74 Q K74 m) : gh_T E (gh_yModel_pick.cls, prog_14_method_102_code, 4, false, 0) (d + 5) 74 [(0, 2, 63)] [] m (fun r m1 => gh_F m1 ∧ Q r m1) := by
  have hK74 := hK
  unfold f_Model_pick_74 at h
  refine gh_aload_n gd_Model_pick_74 0 rfl (by decide) ?_
  refine gf_63_80 gd_Model_pick_75 gh_k1450 hF rfl ?_
  obtain ⟨hA, hB⟩ := h
  refine gh_zle (tgt := 102) gd_Model_pick_78 (by decide) (fun c4439 => ?_) (fun c4439 => ?_)
  · have h := hA c4439
    refine gh_aload_n gd_Model_pick_102 0 rfl (by decide) ?_
    refine gh_aload_n gd_Model_pick_103 0 rfl (by decide) ?_
    refine gf_63_71 gd_Model_pick_104 gh_k1441 hF rfl ?_
    refine pf_63_68 gd_Model_pick_107 gh_k1438 hF (fun hF => ?_)
    refine gh_aload_n gd_Model_pick_110 0 rfl (by decide) ?_
    refine gh_aload_n gd_Model_pick_111 0 rfl (by decide) ?_
    refine gf_63_73 gd_Model_pick_112 gh_k1443 hF (gh_u_i (by decide)) ?_
    refine pf_63_70 gd_Model_pick_115 gh_k1440 hF (fun hF => ?_)
    refine gh_iconst gd_Model_pick_118 (gh_r0 rfl) ?_
    refine gh_istore_n (L2 := [(3, 0, 0), (0, 2, 63)]) gd_Model_pick_119 (by decide) rfl ?_
    refine gh_pick (L2 := [(0, 2, 63), (3, 0, 0)]) [1, 0] rfl ?_
    exact gh_M1_sound (T := fun v3 m => gh_T E (gh_yModel_pick.cls, prog_14_method_102_code, 4, false, 0) (d + 5) 120 [(0, 2, 63), (3, 0, v3)] [] m (fun r m1 => gh_F m1 ∧ Q r m1)) (fun _ m => gh_F m) (fun K120 v3 m hK hF h => b_Model_pick_120 d hK v3 m hF h) 0 (gh_u (gh_u m 63 68 (m 63 71)) 63 70 (m 63 73)) hF h
  · have h := hB c4439
    refine gh_aload_n gd_Model_pick_81 0 rfl (by decide) ?_
    refine gf_63_71 gd_Model_pick_82 gh_k1441 hF rfl ?_
    refine gh_sipush gd_Model_pick_85 (by decide) (gh_r0 rfl) ?_
    obtain ⟨hA, hB⟩ := h
    refine gh_jne (tgt := 95) gd_Model_pick_88 (by decide) (fun c4446 => ?_) (fun c4446 => ?_)
    · have h := hA c4446
      refine gh_sipush gd_Model_pick_91 (by decide) (gh_r0 rfl) ?_
      exact gh_ret0 rfl gd_Model_pick_94 ⟨hF, h⟩
    · have h := hB c4446
      refine gh_aload_n gd_Model_pick_95 0 rfl (by decide) ?_
      refine cv_Model_takeStep (d := d + 4) gd_Model_pick_96 gh_k2017 hF (Nat.le_of_ble_eq_true rfl) (gh_C.mono (s_Model_takeStep d hF h) (fun r4447 m4448 hq => ?_))
      obtain ⟨hF, h⟩ := hq
      refine gh_goto (tgt := 74) gd_Model_pick_99 (by decide) ?_
      exact hK74 m4448 hF h
theorem s_Model_pick {E : gh_E} {m : gh_M} {Q : Int → gh_M → Prop} (d : Nat) (v1 : Int) (hF : gh_F m) (h : w_Model_pick v1 m Q) : gh_C E gh_yModel_pick prog_14_method_102_code 4 (some .int) 0 (d + 5) [(2, 63), (1, v1)] m (fun r m1 => gh_F m1 ∧ Q r m1) := by
  refine gh_enter2 (L := [(0, 2, 63), (1, 1, v1)]) (by decide +kernel) gh_rt0 (Nat.le_of_ble_eq_true rfl) rfl rfl ?_
  unfold w_Model_pick at h
  refine gh_lload_n gd_Model_pick_0 1 rfl ?_
  refine gh_lconst (n := 0) gd_Model_pick_1 (by decide) (gh_r1 rfl) ?_
  refine gh_lcmp gd_Model_pick_2 ?_
  obtain ⟨hA, hB⟩ := h
  have k4431 : (¬ (v1 < 0) ∧ (v1 ≤ 999999999999999999)) → gh_T E (gh_yModel_pick.cls, prog_14_method_102_code, 4, false, 0) (d + 5) 18 [(0, 2, 63), (1, 1, v1)] [] m (fun r m1 => gh_F m1 ∧ Q r m1) := by
    intro c
    have h := hA c
    refine gh_aload_n gd_Model_pick_18 0 rfl (by decide) ?_
    refine gf_63_24 gd_Model_pick_19 gh_k1394 hF rfl ?_
    obtain ⟨hA, hB⟩ := h
    refine gh_zne (tgt := 29) gd_Model_pick_22 (by decide) (fun c4433 => ?_) (fun c4433 => ?_)
    · have h := hA c4433
      refine gh_sipush gd_Model_pick_25 (by decide) (gh_r0 rfl) ?_
      exact gh_ret0 rfl gd_Model_pick_28 ⟨hF, h⟩
    · have h := hB c4433
      refine gh_lload_n gd_Model_pick_29 1 rfl ?_
      refine gh_aload_n gd_Model_pick_30 0 rfl (by decide) ?_
      refine gh_iconst gd_Model_pick_31 (gh_r0 rfl) ?_
      refine gh_iconst gd_Model_pick_32 (gh_r0 rfl) ?_
      refine gh_aload_n gd_Model_pick_33 0 rfl (by decide) ?_
      refine gf_63_50 gd_Model_pick_34 gh_k1420 hF rfl ?_
      refine cv_Model_countTrees (d := d + 4) gd_Model_pick_37 gh_k1972 hF (Nat.le_of_ble_eq_true rfl) (gh_C.mono (s_Model_countTrees d 0 0 (m 63 50) hF h) (fun r4434 m4435 hq => ?_))
      obtain ⟨hF, h⟩ := hq
      refine gh_lcmp gd_Model_pick_40 ?_
      obtain ⟨hA, hB⟩ := h
      refine gh_clt (tgt := 46) gd_Model_pick_41 (by decide) (fun c4436 => ?_) (fun c4436 => ?_)
      · have h := hA c4436
        refine gh_aload_n gd_Model_pick_46 0 rfl (by decide) ?_
        refine gh_iconst gd_Model_pick_47 (gh_r0 rfl) ?_
        refine pf_63_71 gd_Model_pick_48 gh_k1441 hF (fun hF => ?_)
        refine gh_aload_n gd_Model_pick_51 0 rfl (by decide) ?_
        refine gh_iconst gd_Model_pick_52 (gh_r0 rfl) ?_
        refine pf_63_73 gd_Model_pick_53 gh_k1443 hF (fun hF => ?_)
        refine gh_aload_n gd_Model_pick_56 0 rfl (by decide) ?_
        refine gh_iconst gd_Model_pick_57 (gh_r0 rfl) ?_
        refine pf_63_80 gd_Model_pick_58 gh_k1450 hF (fun hF => ?_)
        refine gh_aload_n gd_Model_pick_61 0 rfl (by decide) ?_
        refine gh_iconst gd_Model_pick_62 (gh_r0 rfl) ?_
        refine gh_iconst gd_Model_pick_63 (gh_r0 rfl) ?_
        refine gh_aload_n gd_Model_pick_64 0 rfl (by decide) ?_
        refine gf_63_50 gd_Model_pick_65 gh_k1420 hF ((gh_u_i (by decide)).trans ((gh_u_i (by decide)).trans (gh_u_i (by decide)))) ?_
        refine gh_iconst gd_Model_pick_68 (gh_r0 rfl) ?_
        refine gh_iconst gd_Model_pick_69 (gh_r0 rfl) ?_
        refine gh_lload_n gd_Model_pick_70 1 rfl ?_
        refine cv_Model_opn (d := d + 4) gd_Model_pick_71 gh_k2013 hF (Nat.le_of_ble_eq_true rfl) (gh_C.mono (s_Model_opn (d + 4) 0 0 (m4435 63 50) 0 0 v1 hF h) (fun r4437 m4438 hq => ?_))
        obtain ⟨hF, h⟩ := hq
        refine gh_pick (L2 := [(0, 2, 63)]) [0] rfl ?_
        exact gh_M0_sound (T := fun m => gh_T E (gh_yModel_pick.cls, prog_14_method_102_code, 4, false, 0) (d + 5) 74 [(0, 2, 63)] [] m (fun r m1 => gh_F m1 ∧ Q r m1)) (fun m => gh_F m) (fun K74 m hK hF h => b_Model_pick_74 d hK m hF h) m4438 hF h
      · have h := hB c4436
        refine gh_iconst gd_Model_pick_44 (gh_r0 rfl) ?_
        exact gh_ret0 rfl gd_Model_pick_45 ⟨hF, h⟩
  have k4432 : ¬ (¬ (v1 < 0) ∧ (v1 ≤ 999999999999999999)) → gh_T E (gh_yModel_pick.cls, prog_14_method_102_code, 4, false, 0) (d + 5) 14 [(0, 2, 63), (1, 1, v1)] [] m (fun r m1 => gh_F m1 ∧ Q r m1) := by
    intro c
    have h := hB c
    refine gh_sipush gd_Model_pick_14 (by decide) (gh_r0 rfl) ?_
    exact gh_ret0 rfl gd_Model_pick_17 ⟨hF, h⟩
  refine gh_clt (tgt := 14) gd_Model_pick_3 (by decide) (fun c4449 => ?_) (fun c4449 => ?_)
  · have hz : True := trivial
    exact k4432 (fun z => z.1 c4449)
  · have hz : True := trivial
    refine gh_lload_n gd_Model_pick_6 1 rfl ?_
    refine gh_ldc2 (n := 999999999999999999) gd_Model_pick_7 gh_k2003 (by decide) (gh_r1 rfl) ?_
    refine gh_lcmp gd_Model_pick_10 ?_
    refine gh_cle (tgt := 18) gd_Model_pick_11 (by decide) (fun c4450 => ?_) (fun c4450 => ?_)
    · have hz : True := trivial
      exact k4431 ⟨c4449, c4450⟩
    · have hz : True := trivial
      exact k4432 (fun z => c4450 z.2)
def f_Model_usefulRulesOf_9 (v1 : Int) (Q : Int → Prop) (m : gh_M) (K9 : Int → Int → Prop) (v2 : Int) (v3 : Int) : Prop := 0 ≤ v1 ∧ v1 < 8 ∧ 0 ≤ v1 ∧ v1 < 8 ∧ gh_i ((m 77 v1) + (m 78 v1)) ∧ ((v3 < ((m 77 v1) + (m 78 v1)) → 0 ≤ v3 ∧ v3 < 20 ∧ gh_i (v2 + (if (¬ ((m 83 v3) = 0)) then (1:Int) else 0)) ∧ ∀ v2' : Int, v2' = v2 + (if (¬ ((m 83 v3) = 0)) then (1:Int) else 0) → gh_i (v3 + 1) ∧ K9 v2' (v3 + 1)) ∧ (¬ (v3 < ((m 77 v1) + (m 78 v1))) → Q v2))
def w_Model_usefulRulesOf (v1 : Int) (m : gh_M) (Q : Int → Prop) : Prop := 0 ≤ v1 ∧ v1 < 8 ∧ ∀ v3 : Int, v3 = m 77 v1 → gh_L2 (fun K9 v2 v3 => f_Model_usefulRulesOf_9 v1 Q m K9 v2 v3) 0 v3
theorem b_Model_usefulRulesOf_9 {E : gh_E} {v1 : Int} {Q : Int → Prop} {K9 : Int → Int → Prop} (d : Nat) {m : gh_M} (hK : ∀ (v2 : Int) (v3 : Int), gh_F m → K9 v2 v3 → gh_T E (gh_yModel_usefulRulesOf.cls, prog_14_method_107_code, 4, false, 0) (d + 0) 9 [(0, 2, 63), (1, 0, v1), (2, 0, v2), (3, 0, v3)] [] m (fun r m1 => m1 = m ∧ Q r)) (v2 : Int) (v3 : Int) (hF : gh_F m) (h : f_Model_usefulRulesOf_9 v1 Q m K9 v2 v3) : gh_T E (gh_yModel_usefulRulesOf.cls, prog_14_method_107_code, 4, false, 0) (d + 0) 9 [(0, 2, 63), (1, 0, v1), (2, 0, v2), (3, 0, v3)] [] m (fun r m1 => m1 = m ∧ Q r) := by
  have hK9 := hK
  unfold f_Model_usefulRulesOf_9 at h
  refine gh_iload_n gd_Model_usefulRulesOf_9 3 rfl ?_
  refine gh_aload_n gd_Model_usefulRulesOf_10 0 rfl (by decide) ?_
  refine gf_63_30 gd_Model_usefulRulesOf_11 gh_k1400 hF ?_
  refine gh_iload_n gd_Model_usefulRulesOf_14 1 rfl ?_
  obtain ⟨q4453, h⟩ := h
  obtain ⟨q4454, h⟩ := h
  refine la_77 gd_Model_usefulRulesOf_15 hF q4453 q4454 rfl ?_
  refine gh_aload_n gd_Model_usefulRulesOf_16 0 rfl (by decide) ?_
  refine gf_63_31 gd_Model_usefulRulesOf_17 gh_k1401 hF ?_
  refine gh_iload_n gd_Model_usefulRulesOf_20 1 rfl ?_
  obtain ⟨q4455, h⟩ := h
  obtain ⟨q4456, h⟩ := h
  refine la_78 gd_Model_usefulRulesOf_21 hF q4455 q4456 rfl ?_
  obtain ⟨q4457, h⟩ := h
  refine gh_iadd gd_Model_usefulRulesOf_22 q4457 ?_
  obtain ⟨hA, hB⟩ := h
  refine gh_jge (tgt := 49) gd_Model_usefulRulesOf_23 (by decide) (fun c4458 => ?_) (fun c4458 => ?_)
  · have h := hA c4458
    refine gh_iload_n gd_Model_usefulRulesOf_26 2 rfl ?_
    refine gh_aload_n gd_Model_usefulRulesOf_27 0 rfl (by decide) ?_
    refine gf_63_36 gd_Model_usefulRulesOf_28 gh_k1406 hF ?_
    refine gh_iload_n gd_Model_usefulRulesOf_31 3 rfl ?_
    obtain ⟨q4459, h⟩ := h
    obtain ⟨q4460, h⟩ := h
    refine la_83 gd_Model_usefulRulesOf_32 hF q4459 q4460 rfl ?_
    have k4461 : ∀ x4462 : Int, x4462 = (if (¬ ((m 83 v3) = 0)) then (1:Int) else 0) → gh_T E (gh_yModel_usefulRulesOf.cls, prog_14_method_107_code, 4, false, 0) (d + 0) 41 [(0, 2, 63), (1, 0, v1), (2, 0, v2), (3, 0, v3)] [(0, x4462), (0, v2)] m (fun r m1 => m1 = m ∧ Q r) := by
      rintro _ rfl
      obtain ⟨q4463, h⟩ := h
      refine gh_iadd gd_Model_usefulRulesOf_41 q4463 ?_
      refine gh_name (fun v2' hn => ?_)
      have h := h v2' hn
      refine gh_istore_n (L2 := [(2, 0, v2'), (0, 2, 63), (1, 0, v1), (3, 0, v3)]) gd_Model_usefulRulesOf_42 (by decide) rfl ?_
      obtain ⟨q4464, h⟩ := h
      refine gh_iinc (L2 := [(3, 0, v3 + 1), (2, 0, v2'), (0, 2, 63), (1, 0, v1)]) gd_Model_usefulRulesOf_43 3 rfl q4464 (by decide) rfl ?_
      refine gh_goto (tgt := 9) gd_Model_usefulRulesOf_46 (by decide) ?_
      refine gh_pick (L2 := [(0, 2, 63), (1, 0, v1), (2, 0, v2'), (3, 0, v3 + 1)]) [2, 3, 1, 0] rfl ?_
      exact hK9 v2' (v3 + 1) hF h
    refine gh_zeq (tgt := 40) gd_Model_usefulRulesOf_33 (by decide) (fun c4465 => ?_) (fun c4465 => ?_)
    · have hz : True := trivial
      refine gh_iconst gd_Model_usefulRulesOf_40 (gh_r0 rfl) ?_
      exact k4461 _ (if_neg (c := (¬ ((m 83 v3) = 0))) (not_not_intro c4465)).symm
    · have hz : True := trivial
      refine gh_iconst gd_Model_usefulRulesOf_36 (gh_r0 rfl) ?_
      refine gh_goto (tgt := 41) gd_Model_usefulRulesOf_37 (by decide) ?_
      exact k4461 _ (if_pos (c := (¬ ((m 83 v3) = 0))) c4465).symm
  · have h := hB c4458
    refine gh_iload_n gd_Model_usefulRulesOf_49 2 rfl ?_
    exact gh_ret0 rfl gd_Model_usefulRulesOf_50 ⟨rfl, h⟩
theorem s_Model_usefulRulesOf {E : gh_E} {m : gh_M} {Q : Int → Prop} (d : Nat) (v1 : Int) (hF : gh_F m) (h : w_Model_usefulRulesOf v1 m Q) : gh_C E gh_yModel_usefulRulesOf prog_14_method_107_code 4 (some .int) 0 (d + 0) [(2, 63), (0, v1)] m (fun r m1 => m1 = m ∧ Q r) := by
  refine gh_enter2 (L := [(0, 2, 63), (1, 0, v1)]) (by decide +kernel) gh_rt0 (Nat.le_of_ble_eq_true rfl) rfl rfl ?_
  unfold w_Model_usefulRulesOf at h
  refine gh_iconst gd_Model_usefulRulesOf_0 (gh_r0 rfl) ?_
  refine gh_istore_n (L2 := [(2, 0, 0), (0, 2, 63), (1, 0, v1)]) gd_Model_usefulRulesOf_1 (by decide) rfl ?_
  refine gh_aload_n gd_Model_usefulRulesOf_2 1 rfl (by decide) ?_
  refine gf_63_30 gd_Model_usefulRulesOf_3 gh_k1400 hF ?_
  refine gh_iload_n gd_Model_usefulRulesOf_6 2 rfl ?_
  obtain ⟨q4451, h⟩ := h
  obtain ⟨q4452, h⟩ := h
  refine la_77 gd_Model_usefulRulesOf_7 hF q4451 q4452 rfl ?_
  refine gh_name (fun v3 hn => ?_)
  have h := h v3 hn
  refine gh_istore_n (L2 := [(3, 0, v3), (2, 0, 0), (0, 2, 63), (1, 0, v1)]) gd_Model_usefulRulesOf_8 (by decide) rfl ?_
  refine gh_pick (L2 := [(0, 2, 63), (1, 0, v1), (2, 0, 0), (3, 0, v3)]) [2, 3, 1, 0] rfl ?_
  exact gh_L2_sound (T := fun v2 v3 => gh_T E (gh_yModel_usefulRulesOf.cls, prog_14_method_107_code, 4, false, 0) (d + 0) 9 [(0, 2, 63), (1, 0, v1), (2, 0, v2), (3, 0, v3)] [] m (fun r m1 => m1 = m ∧ Q r)) (fun _ _ => gh_F m) (fun K9 v2 v3 hK hF h => b_Model_usefulRulesOf_9 d hK v2 v3 hF h) 0 v3 hF h
def w_Model_draw (v1 : Int) (m : gh_M) (Q : Int → gh_M → Prop) : Prop := gh_i (25173 * (m 63 83)) ∧ gh_i ((25173 * (m 63 83)) + 13849) ∧ 0 ≤ (25173 * (m 63 83)) + 13849 ∧ 0 ≤ (((25173 * (m 63 83)) + 13849) % 65536) ∧ 0 ≤ ((((25173 * (m 63 83)) + 13849) % 65536)) / 16 ∧ 0 < v1 ∧ Q ((((((25173 * (m 63 83)) + 13849) % 65536)) / 16) % v1) (gh_u m 63 83 (((25173 * (m 63 83)) + 13849) % 65536))
theorem s_Model_draw {E : gh_E} {m : gh_M} {Q : Int → gh_M → Prop} (d : Nat) (v1 : Int) (hF : gh_F m) (h : w_Model_draw v1 m Q) : gh_C E gh_yModel_draw prog_14_method_105_code 2 (some .int) 0 (d + 0) [(2, 63), (0, v1)] m (fun r m1 => gh_F m1 ∧ Q r m1) := by
  refine gh_enter2 (L := [(0, 2, 63), (1, 0, v1)]) (by decide +kernel) gh_rt0 (Nat.le_of_ble_eq_true rfl) rfl rfl ?_
  unfold w_Model_draw at h
  refine gh_aload_n gd_Model_draw_0 0 rfl (by decide) ?_
  refine gh_sipush gd_Model_draw_1 (by decide) (gh_r0 rfl) ?_
  refine gh_aload_n gd_Model_draw_4 0 rfl (by decide) ?_
  refine gf_63_83 gd_Model_draw_5 gh_k1453 hF rfl ?_
  obtain ⟨q4466, h⟩ := h
  refine gh_imul gd_Model_draw_8 q4466 ?_
  refine gh_sipush gd_Model_draw_9 (by decide) (gh_r0 rfl) ?_
  obtain ⟨q4467, h⟩ := h
  refine gh_iadd gd_Model_draw_12 q4467 ?_
  refine gh_ldcw (n := 65536) gd_Model_draw_13 gh_k2054 (by decide) (gh_r0 rfl) ?_
  obtain ⟨q4468, h⟩ := h
  refine gh_irem gd_Model_draw_16 q4468 (by decide) ?_
  refine pf_63_83 gd_Model_draw_17 gh_k1453 hF (fun hF => ?_)
  refine gh_aload_n gd_Model_draw_20 0 rfl (by decide) ?_
  refine gf_63_83 gd_Model_draw_21 gh_k1453 hF (gh_u_s _ _ _ _) ?_
  refine gh_bipush gd_Model_draw_24 (by decide) (gh_r0 rfl) ?_
  obtain ⟨q4469, h⟩ := h
  refine gh_idiv gd_Model_draw_26 q4469 (by decide) ?_
  refine gh_iload_n gd_Model_draw_27 1 rfl ?_
  obtain ⟨q4470, h⟩ := h
  obtain ⟨q4471, h⟩ := h
  refine gh_irem gd_Model_draw_28 q4470 q4471 ?_
  exact gh_ret0 rfl gd_Model_draw_29 ⟨hF, h⟩
def f_Model_usefulRuleOf_10 (Q : Int → Prop) (m : gh_M) (K10 : Int → Int → Prop) (v3 : Int) (v4 : Int) : Prop := 0 ≤ v3 ∧ v3 < 20 ∧ ∃ J24 : Prop, (J24 → 0 ≤ v3 ∧ v3 < 20 ∧ gh_i (v4 - (if (¬ ((m 83 v3) = 0)) then (1:Int) else 0)) ∧ ∀ v4' : Int, v4' = v4 - (if (¬ ((m 83 v3) = 0)) then (1:Int) else 0) → gh_i (v3 + 1) ∧ K10 (v3 + 1) v4') ∧ (((¬ ((m 83 v3) = 0) ∧ (v4 ≤ 0)) → Q v3) ∧ (¬ (¬ ((m 83 v3) = 0) ∧ (v4 ≤ 0)) → J24))
def w_Model_usefulRuleOf (v1 : Int) (v2 : Int) (m : gh_M) (Q : Int → Prop) : Prop := 0 ≤ v1 ∧ v1 < 8 ∧ ∀ v3 : Int, v3 = m 77 v1 → gh_L2 (fun K10 v3 v4 => f_Model_usefulRuleOf_10 Q m K10 v3 v4) v3 v2
theorem b_Model_usefulRuleOf_10 {E : gh_E} {Q : Int → Prop} {K10 : Int → Int → Prop} (d : Nat) {m : gh_M} (hK : ∀ (v3 : Int) (v4 : Int), gh_F m → K10 v3 v4 → gh_T E (gh_yModel_usefulRuleOf.cls, prog_14_method_108_code, 5, false, 0) (d + 0) 10 [(0, 2, 63), (3, 0, v3), (4, 0, v4)] [] m (fun r m1 => m1 = m ∧ Q r)) (v3 : Int) (v4 : Int) (hF : gh_F m) (h : f_Model_usefulRuleOf_10 Q m K10 v3 v4) : gh_T E (gh_yModel_usefulRuleOf.cls, prog_14_method_108_code, 5, false, 0) (d + 0) 10 [(0, 2, 63), (3, 0, v3), (4, 0, v4)] [] m (fun r m1 => m1 = m ∧ Q r) := by
  have hK10 := hK
  unfold f_Model_usefulRuleOf_10 at h
  refine gh_aload_n gd_Model_usefulRuleOf_10 0 rfl (by decide) ?_
  refine gf_63_36 gd_Model_usefulRuleOf_11 gh_k1406 hF ?_
  refine gh_iload_n gd_Model_usefulRuleOf_14 1 rfl ?_
  obtain ⟨q4474, h⟩ := h
  obtain ⟨q4475, h⟩ := h
  refine la_83 gd_Model_usefulRuleOf_15 hF q4474 q4475 rfl ?_
  obtain ⟨J24, hJ24, h⟩ := h
  have hJ24 : gh_F m → J24 → gh_T E (gh_yModel_usefulRuleOf.cls, prog_14_method_108_code, 5, false, 0) (d + 0) 24 [(0, 2, 63), (3, 0, v3), (4, 0, v4)] [] m (fun r m1 => m1 = m ∧ Q r) := by
    intro hF hj
    have h := hJ24 hj
    refine gh_iload gd_Model_usefulRuleOf_24 2 rfl ?_
    refine gh_aload_n gd_Model_usefulRuleOf_26 0 rfl (by decide) ?_
    refine gf_63_36 gd_Model_usefulRuleOf_27 gh_k1406 hF ?_
    refine gh_iload_n gd_Model_usefulRuleOf_30 1 rfl ?_
    obtain ⟨q4476, h⟩ := h
    obtain ⟨q4477, h⟩ := h
    refine la_83 gd_Model_usefulRuleOf_31 hF q4476 q4477 rfl ?_
    have k4478 : ∀ x4479 : Int, x4479 = (if (¬ ((m 83 v3) = 0)) then (1:Int) else 0) → gh_T E (gh_yModel_usefulRuleOf.cls, prog_14_method_108_code, 5, false, 0) (d + 0) 40 [(0, 2, 63), (3, 0, v3), (4, 0, v4)] [(0, x4479), (0, v4)] m (fun r m1 => m1 = m ∧ Q r) := by
      rintro _ rfl
      obtain ⟨q4480, h⟩ := h
      refine gh_isub gd_Model_usefulRuleOf_40 q4480 ?_
      refine gh_name (fun v4' hn => ?_)
      have h := h v4' hn
      refine gh_istore (L2 := [(4, 0, v4'), (0, 2, 63), (3, 0, v3)]) gd_Model_usefulRuleOf_41 (by decide) rfl ?_
      obtain ⟨q4481, h⟩ := h
      refine gh_iinc (L2 := [(3, 0, v3 + 1), (4, 0, v4'), (0, 2, 63)]) gd_Model_usefulRuleOf_43 2 rfl q4481 (by decide) rfl ?_
      refine gh_goto (tgt := 10) gd_Model_usefulRuleOf_46 (by decide) ?_
      refine gh_pick (L2 := [(0, 2, 63), (3, 0, v3 + 1), (4, 0, v4')]) [2, 0, 1] rfl ?_
      exact hK10 (v3 + 1) v4' hF h
    refine gh_zeq (tgt := 39) gd_Model_usefulRuleOf_32 (by decide) (fun c4482 => ?_) (fun c4482 => ?_)
    · have hz : True := trivial
      refine gh_iconst gd_Model_usefulRuleOf_39 (gh_r0 rfl) ?_
      exact k4478 _ (if_neg (c := (¬ ((m 83 v3) = 0))) (not_not_intro c4482)).symm
    · have hz : True := trivial
      refine gh_iconst gd_Model_usefulRuleOf_35 (gh_r0 rfl) ?_
      refine gh_goto (tgt := 40) gd_Model_usefulRuleOf_36 (by decide) ?_
      exact k4478 _ (if_pos (c := (¬ ((m 83 v3) = 0))) c4482).symm
  obtain ⟨hA, hB⟩ := h
  have k4483 : (¬ ((m 83 v3) = 0) ∧ (v4 ≤ 0)) → gh_T E (gh_yModel_usefulRuleOf.cls, prog_14_method_108_code, 5, false, 0) (d + 0) 49 [(0, 2, 63), (3, 0, v3), (4, 0, v4)] [] m (fun r m1 => m1 = m ∧ Q r) := by
    intro c
    have h := hA c
    refine gh_iload_n gd_Model_usefulRuleOf_49 1 rfl ?_
    exact gh_ret0 rfl gd_Model_usefulRuleOf_50 ⟨rfl, h⟩
  have k4484 : ¬ (¬ ((m 83 v3) = 0) ∧ (v4 ≤ 0)) → gh_T E (gh_yModel_usefulRuleOf.cls, prog_14_method_108_code, 5, false, 0) (d + 0) 24 [(0, 2, 63), (3, 0, v3), (4, 0, v4)] [] m (fun r m1 => m1 = m ∧ Q r) := by
    intro c
    have h := hB c
    exact hJ24 hF h
  refine gh_zeq (tgt := 24) gd_Model_usefulRuleOf_16 (by decide) (fun c4485 => ?_) (fun c4485 => ?_)
  · have hz : True := trivial
    exact k4484 (fun z => z.1 c4485)
  · have hz : True := trivial
    refine gh_iload gd_Model_usefulRuleOf_19 2 rfl ?_
    refine gh_zle (tgt := 49) gd_Model_usefulRuleOf_21 (by decide) (fun c4486 => ?_) (fun c4486 => ?_)
    · have hz : True := trivial
      exact k4483 ⟨c4485, c4486⟩
    · have hz : True := trivial
      exact k4484 (fun z => c4486 z.2)
theorem s_Model_usefulRuleOf {E : gh_E} {m : gh_M} {Q : Int → Prop} (d : Nat) (v1 : Int) (v2 : Int) (hF : gh_F m) (h : w_Model_usefulRuleOf v1 v2 m Q) : gh_C E gh_yModel_usefulRuleOf prog_14_method_108_code 5 (some .int) 0 (d + 0) [(2, 63), (0, v1), (0, v2)] m (fun r m1 => m1 = m ∧ Q r) := by
  refine gh_enter2 (L := [(0, 2, 63), (1, 0, v1), (2, 0, v2)]) (by decide +kernel) gh_rt0 (Nat.le_of_ble_eq_true rfl) rfl rfl ?_
  unfold w_Model_usefulRuleOf at h
  refine gh_aload_n gd_Model_usefulRuleOf_0 0 rfl (by decide) ?_
  refine gf_63_30 gd_Model_usefulRuleOf_1 gh_k1400 hF ?_
  refine gh_iload_n gd_Model_usefulRuleOf_4 1 rfl ?_
  obtain ⟨q4472, h⟩ := h
  obtain ⟨q4473, h⟩ := h
  refine la_77 gd_Model_usefulRuleOf_5 hF q4472 q4473 rfl ?_
  refine gh_name (fun v3 hn => ?_)
  have h := h v3 hn
  refine gh_istore_n (L2 := [(3, 0, v3), (0, 2, 63), (1, 0, v1), (2, 0, v2)]) gd_Model_usefulRuleOf_6 (by decide) rfl ?_
  refine gh_iload_n gd_Model_usefulRuleOf_7 3 rfl ?_
  refine gh_istore (L2 := [(4, 0, v2), (3, 0, v3), (0, 2, 63), (1, 0, v1), (2, 0, v2)]) gd_Model_usefulRuleOf_8 (by decide) rfl ?_
  refine gh_pick (L2 := [(0, 2, 63), (3, 0, v3), (4, 0, v2)]) [2, 1, 0] rfl ?_
  exact gh_L2_sound (T := fun v3 v4 => gh_T E (gh_yModel_usefulRuleOf.cls, prog_14_method_108_code, 5, false, 0) (d + 0) 10 [(0, 2, 63), (3, 0, v3), (4, 0, v4)] [] m (fun r m1 => m1 = m ∧ Q r)) (fun _ _ => gh_F m) (fun K10 v3 v4 hK hF h => b_Model_usefulRuleOf_10 d hK v3 v4 hF h) v3 v2 hF h
def f_Model_replaceBy_102 (v1 : Int) (v2 : Int) (Q : Int → gh_M → Prop) (K102 : Int → gh_M → Prop) (v4 : Int) (m : gh_M) : Prop := 0 ≤ v2 ∧ v2 < 20 ∧ ((v4 < (m 80 v2) → gh_i (v1 + v4) ∧ gh_i (4 * v2) ∧ gh_i ((4 * v2) + v4) ∧ 0 ≤ (4 * v2) + v4 ∧ ((4 * v2) + v4) < 80 ∧ 0 ≤ v1 + v4 ∧ (v1 + v4) < 300 ∧ gh_i (v4 + 1) ∧ K102 (v4 + 1) (gh_u m 117 (v1 + v4) (m 81 ((4 * v2) + v4)))) ∧ (¬ (v4 < (m 80 v2)) → Q 0 m))
def f_Model_replaceBy_57 (v1 : Int) (v2 : Int) (v3 : Int) (Q : Int → gh_M → Prop) (K57 : Int → gh_M → Prop) (v4 : Int) (m : gh_M) : Prop := ∃ J89 : gh_M → Prop, (∀ (m : gh_M), J89 m → gh_i ((m 63 82) + v3) ∧ gh_M1 (fun K102 v4 m => f_Model_replaceBy_102 v1 v2 Q K102 v4 m) 0 (gh_u m 63 82 ((m 63 82) + v3))) ∧ ((((v4 ≤ v1) ∨ (v3 ≤ 0)) → J89 m) ∧ (¬ ((v4 ≤ v1) ∨ (v3 ≤ 0)) → gh_i (v4 + v3) ∧ 0 ≤ v4 ∧ v4 < 300 ∧ 0 ≤ v4 + v3 ∧ (v4 + v3) < 300 ∧ gh_i (v4 + (-1)) ∧ K57 (v4 + (-1)) (gh_u m 117 (v4 + v3) (m 117 v4))))
def f_Model_replaceBy_16 (v1 : Int) (v2 : Int) (v3 : Int) (J49 : gh_M → Prop) (K16 : Int → gh_M → Prop) (v4 : Int) (m : gh_M) : Prop := gh_i ((m 63 82) - 1) ∧ ((v4 < ((m 63 82) - 1) → gh_i (v4 + 1) ∧ 0 ≤ v4 + 1 ∧ (v4 + 1) < 300 ∧ 0 ≤ v4 ∧ v4 < 300 ∧ gh_i (v4 + 1) ∧ K16 (v4 + 1) (gh_u m 117 v4 (m 117 (v4 + 1)))) ∧ (¬ (v4 < ((m 63 82) - 1)) → J49 m))
def w_Model_replaceBy (v1 : Int) (v2 : Int) (m : gh_M) (Q : Int → gh_M → Prop) : Prop := 0 ≤ v2 ∧ v2 < 20 ∧ gh_i ((m 80 v2) - 1) ∧ ∀ v3 : Int, v3 = (m 80 v2) - 1 → ∃ J49 : gh_M → Prop, (∀ (m : gh_M), J49 m → gh_i ((m 63 82) - 1) ∧ ∀ v4 : Int, v4 = (m 63 82) - 1 → gh_M1 (fun K57 v4 m => f_Model_replaceBy_57 v1 v2 v3 Q K57 v4 m) v4 m) ∧ ((v3 < 0 → gh_M1 (fun K16 v4 m => f_Model_replaceBy_16 v1 v2 v3 J49 K16 v4 m) v1 m) ∧ (¬ (v3 < 0) → J49 m))
theorem b_Model_replaceBy_102 {E : gh_E} {v1 : Int} {v2 : Int} {Q : Int → gh_M → Prop} {K102 : Int → gh_M → Prop} (d : Nat) (hK : ∀ (v4 : Int) (m : gh_M), gh_F m → K102 v4 m → gh_T E (gh_yModel_replaceBy.cls, prog_14_method_106_code, 5, false, 9) (d + 0) 102 [(0, 2, 63), (1, 0, v1), (2, 0, v2), (4, 0, v4)] [] m (fun r m1 => gh_F m1 ∧ Q r m1)) (v4 : Int) (m : gh_M) (hF : gh_F m) (h : f_Model_replaceBy_102 v1 v2 Q K102 v4 m) : gh_T E (gh_yModel_replaceBy.cls, prog_14_method_106_code, 5, false, 9) (d + 0) 102 [(0, 2, 63), (1, 0, v1), (2, 0, v2), (4, 0, v4)] [] m (fun r m1 => gh_F m1 ∧ Q r m1) := by
  have hK102 := hK
  unfold f_Model_replaceBy_102 at h
  refine gh_iload gd_Model_replaceBy_102 3 rfl ?_
  refine gh_aload_n gd_Model_replaceBy_104 0 rfl (by decide) ?_
  refine gf_63_33 gd_Model_replaceBy_105 gh_k1403 hF ?_
  refine gh_iload_n gd_Model_replaceBy_108 2 rfl ?_
  obtain ⟨q4492, h⟩ := h
  obtain ⟨q4493, h⟩ := h
  refine la_80 gd_Model_replaceBy_109 hF q4492 q4493 rfl ?_
  obtain ⟨hA, hB⟩ := h
  refine gh_jge (tgt := 139) gd_Model_replaceBy_110 (by decide) (fun c4494 => ?_) (fun c4494 => ?_)
  · have h := hA c4494
    refine gh_aload_n gd_Model_replaceBy_113 0 rfl (by decide) ?_
    refine gf_63_81 gd_Model_replaceBy_114 gh_k1451 hF ?_
    refine gh_iload_n gd_Model_replaceBy_117 1 rfl ?_
    refine gh_iload gd_Model_replaceBy_118 3 rfl ?_
    obtain ⟨q4495, h⟩ := h
    refine gh_iadd gd_Model_replaceBy_120 q4495 ?_
    refine gh_aload_n gd_Model_replaceBy_121 0 rfl (by decide) ?_
    refine gf_63_34 gd_Model_replaceBy_122 gh_k1404 hF ?_
    refine gh_iconst gd_Model_replaceBy_125 (gh_r0 rfl) ?_
    refine gh_iload_n gd_Model_replaceBy_126 2 rfl ?_
    obtain ⟨q4496, h⟩ := h
    refine gh_imul gd_Model_replaceBy_127 q4496 ?_
    refine gh_iload gd_Model_replaceBy_128 3 rfl ?_
    obtain ⟨q4497, h⟩ := h
    refine gh_iadd gd_Model_replaceBy_130 q4497 ?_
    obtain ⟨q4498, h⟩ := h
    obtain ⟨q4499, h⟩ := h
    refine la_81 gd_Model_replaceBy_131 hF q4498 q4499 rfl ?_
    obtain ⟨q4500, h⟩ := h
    obtain ⟨q4501, h⟩ := h
    refine sa_117 gd_Model_replaceBy_132 hF q4500 q4501 (fun hF => ?_)
    obtain ⟨q4502, h⟩ := h
    refine gh_iinc (L2 := [(4, 0, v4 + 1), (0, 2, 63), (1, 0, v1), (2, 0, v2)]) gd_Model_replaceBy_133 3 rfl q4502 (by decide) rfl ?_
    refine gh_goto (tgt := 102) gd_Model_replaceBy_136 (by decide) ?_
    refine gh_pick (L2 := [(0, 2, 63), (1, 0, v1), (2, 0, v2), (4, 0, v4 + 1)]) [1, 2, 3, 0] rfl ?_
    exact hK102 (v4 + 1) (gh_u m 117 (v1 + v4) (m 81 ((4 * v2) + v4))) hF h
  · have h := hB c4494
    exact gh_ret9 rfl gd_Model_replaceBy_139 ⟨hF, h⟩
theorem b_Model_replaceBy_57 {E : gh_E} {v1 : Int} {v2 : Int} {v3 : Int} {Q : Int → gh_M → Prop} {K57 : Int → gh_M → Prop} (d : Nat) (hK : ∀ (v4 : Int) (m : gh_M), gh_F m → K57 v4 m → gh_T E (gh_yModel_replaceBy.cls, prog_14_method_106_code, 5, false, 9) (d + 0) 57 [(0, 2, 63), (1, 0, v1), (2, 0, v2), (3, 0, v3), (4, 0, v4)] [] m (fun r m1 => gh_F m1 ∧ Q r m1)) (v4 : Int) (m : gh_M) (hF : gh_F m) (h : f_Model_replaceBy_57 v1 v2 v3 Q K57 v4 m) : gh_T E (gh_yModel_replaceBy.cls, prog_14_method_106_code, 5, false, 9) (d + 0) 57 [(0, 2, 63), (1, 0, v1), (2, 0, v2), (3, 0, v3), (4, 0, v4)] [] m (fun r m1 => gh_F m1 ∧ Q r m1) := by
  have hK57 := hK
  unfold f_Model_replaceBy_57 at h
  refine gh_iload gd_Model_replaceBy_57 4 rfl ?_
  refine gh_iload_n gd_Model_replaceBy_59 1 rfl ?_
  obtain ⟨J89, hJ89, h⟩ := h
  have hJ89 : ∀ (m : gh_M), gh_F m → J89 m → gh_T E (gh_yModel_replaceBy.cls, prog_14_method_106_code, 5, false, 9) (d + 0) 89 [(0, 2, 63), (1, 0, v1), (2, 0, v2), (3, 0, v3)] [] m (fun r m1 => gh_F m1 ∧ Q r m1) := by
    intro m hF hj
    have h := hJ89 m hj
    refine gh_aload_n gd_Model_replaceBy_89 0 rfl (by decide) ?_
    refine gh_dup gd_Model_replaceBy_90 (by decide) ?_
    refine gf_63_82 gd_Model_replaceBy_91 gh_k1452 hF rfl ?_
    refine gh_iload_n gd_Model_replaceBy_94 3 rfl ?_
    obtain ⟨q4491, h⟩ := h
    refine gh_iadd gd_Model_replaceBy_95 q4491 ?_
    refine pf_63_82 gd_Model_replaceBy_96 gh_k1452 hF (fun hF => ?_)
    refine gh_iconst gd_Model_replaceBy_99 (gh_r0 rfl) ?_
    refine gh_istore (L2 := [(4, 0, 0), (0, 2, 63), (1, 0, v1), (2, 0, v2), (3, 0, v3)]) gd_Model_replaceBy_100 (by decide) rfl ?_
    refine gh_pick (L2 := [(0, 2, 63), (1, 0, v1), (2, 0, v2), (4, 0, 0)]) [1, 2, 3, 0] rfl ?_
    exact gh_M1_sound (T := fun v4 m => gh_T E (gh_yModel_replaceBy.cls, prog_14_method_106_code, 5, false, 9) (d + 0) 102 [(0, 2, 63), (1, 0, v1), (2, 0, v2), (4, 0, v4)] [] m (fun r m1 => gh_F m1 ∧ Q r m1)) (fun _ m => gh_F m) (fun K102 v4 m hK hF h => b_Model_replaceBy_102 d hK v4 m hF h) 0 (gh_u m 63 82 ((m 63 82) + v3)) hF h
  obtain ⟨hA, hB⟩ := h
  have k4503 : ((v4 ≤ v1) ∨ (v3 ≤ 0)) → gh_T E (gh_yModel_replaceBy.cls, prog_14_method_106_code, 5, false, 9) (d + 0) 89 [(0, 2, 63), (1, 0, v1), (2, 0, v2), (3, 0, v3), (4, 0, v4)] [] m (fun r m1 => gh_F m1 ∧ Q r m1) := by
    intro c
    have h := hA c
    refine gh_pick (L2 := [(0, 2, 63), (1, 0, v1), (2, 0, v2), (3, 0, v3)]) [0, 1, 2, 3] rfl ?_
    exact hJ89 m hF h
  have k4504 : ¬ ((v4 ≤ v1) ∨ (v3 ≤ 0)) → gh_T E (gh_yModel_replaceBy.cls, prog_14_method_106_code, 5, false, 9) (d + 0) 67 [(0, 2, 63), (1, 0, v1), (2, 0, v2), (3, 0, v3), (4, 0, v4)] [] m (fun r m1 => gh_F m1 ∧ Q r m1) := by
    intro c
    have h := hB c
    refine gh_aload_n gd_Model_replaceBy_67 0 rfl (by decide) ?_
    refine gf_63_81 gd_Model_replaceBy_68 gh_k1451 hF ?_
    refine gh_iload gd_Model_replaceBy_71 4 rfl ?_
    refine gh_iload_n gd_Model_replaceBy_73 3 rfl ?_
    obtain ⟨q4505, h⟩ := h
    refine gh_iadd gd_Model_replaceBy_74 q4505 ?_
    refine gh_aload_n gd_Model_replaceBy_75 0 rfl (by decide) ?_
    refine gf_63_81 gd_Model_replaceBy_76 gh_k1451 hF ?_
    refine gh_iload gd_Model_replaceBy_79 4 rfl ?_
    obtain ⟨q4506, h⟩ := h
    obtain ⟨q4507, h⟩ := h
    refine la_117 gd_Model_replaceBy_81 hF q4506 q4507 rfl ?_
    obtain ⟨q4508, h⟩ := h
    obtain ⟨q4509, h⟩ := h
    refine sa_117 gd_Model_replaceBy_82 hF q4508 q4509 (fun hF => ?_)
    obtain ⟨q4510, h⟩ := h
    refine gh_iinc (L2 := [(4, 0, v4 + (-1)), (0, 2, 63), (1, 0, v1), (2, 0, v2), (3, 0, v3)]) gd_Model_replaceBy_83 4 rfl q4510 (by decide) rfl ?_
    refine gh_goto (tgt := 57) gd_Model_replaceBy_86 (by decide) ?_
    refine gh_pick (L2 := [(0, 2, 63), (1, 0, v1), (2, 0, v2), (3, 0, v3), (4, 0, v4 + (-1))]) [1, 2, 3, 4, 0] rfl ?_
    exact hK57 (v4 + (-1)) (gh_u m 117 (v4 + v3) (m 117 v4)) hF h
  refine gh_jle (tgt := 89) gd_Model_replaceBy_60 (by decide) (fun c4511 => ?_) (fun c4511 => ?_)
  · have hz : True := trivial
    exact k4503 (Or.inl c4511)
  · have hz : True := trivial
    refine gh_iload_n gd_Model_replaceBy_63 3 rfl ?_
    refine gh_zle (tgt := 89) gd_Model_replaceBy_64 (by decide) (fun c4512 => ?_) (fun c4512 => ?_)
    · have hz : True := trivial
      exact k4503 (Or.inr c4512)
    · have hz : True := trivial
      exact k4504 (fun z => z.elim c4511 c4512)
theorem b_Model_replaceBy_16 {E : gh_E} {v1 : Int} {v2 : Int} {v3 : Int} {J49 : gh_M → Prop} {Q : Int → gh_M → Prop} {K16 : Int → gh_M → Prop} (d : Nat) (hJ49 : ∀ (m : gh_M), gh_F m → J49 m → gh_T E (gh_yModel_replaceBy.cls, prog_14_method_106_code, 5, false, 9) (d + 0) 49 [(0, 2, 63), (1, 0, v1), (2, 0, v2), (3, 0, v3)] [] m (fun r m1 => gh_F m1 ∧ Q r m1)) (hK : ∀ (v4 : Int) (m : gh_M), gh_F m → K16 v4 m → gh_T E (gh_yModel_replaceBy.cls, prog_14_method_106_code, 5, false, 9) (d + 0) 16 [(0, 2, 63), (1, 0, v1), (2, 0, v2), (3, 0, v3), (4, 0, v4)] [] m (fun r m1 => gh_F m1 ∧ Q r m1)) (v4 : Int) (m : gh_M) (hF : gh_F m) (h : f_Model_replaceBy_16 v1 v2 v3 J49 K16 v4 m) : gh_T E (gh_yModel_replaceBy.cls, prog_14_method_106_code, 5, false, 9) (d + 0) 16 [(0, 2, 63), (1, 0, v1), (2, 0, v2), (3, 0, v3), (4, 0, v4)] [] m (fun r m1 => gh_F m1 ∧ Q r m1) := by
  have hK16 := hK
  unfold f_Model_replaceBy_16 at h
  refine gh_iload gd_Model_replaceBy_16 4 rfl ?_
  refine gh_aload_n gd_Model_replaceBy_18 0 rfl (by decide) ?_
  refine gf_63_82 gd_Model_replaceBy_19 gh_k1452 hF rfl ?_
  refine gh_iconst gd_Model_replaceBy_22 (gh_r0 rfl) ?_
  obtain ⟨q4514, h⟩ := h
  refine gh_isub gd_Model_replaceBy_23 q4514 ?_
  obtain ⟨hA, hB⟩ := h
  refine gh_jge (tgt := 49) gd_Model_replaceBy_24 (by decide) (fun c4515 => ?_) (fun c4515 => ?_)
  · have h := hA c4515
    refine gh_aload_n gd_Model_replaceBy_27 0 rfl (by decide) ?_
    refine gf_63_81 gd_Model_replaceBy_28 gh_k1451 hF ?_
    refine gh_iload gd_Model_replaceBy_31 4 rfl ?_
    refine gh_aload_n gd_Model_replaceBy_33 0 rfl (by decide) ?_
    refine gf_63_81 gd_Model_replaceBy_34 gh_k1451 hF ?_
    refine gh_iload gd_Model_replaceBy_37 4 rfl ?_
    refine gh_iconst gd_Model_replaceBy_39 (gh_r0 rfl) ?_
    obtain ⟨q4516, h⟩ := h
    refine gh_iadd gd_Model_replaceBy_40 q4516 ?_
    obtain ⟨q4517, h⟩ := h
    obtain ⟨q4518, h⟩ := h
    refine la_117 gd_Model_replaceBy_41 hF q4517 q4518 rfl ?_
    obtain ⟨q4519, h⟩ := h
    obtain ⟨q4520, h⟩ := h
    refine sa_117 gd_Model_replaceBy_42 hF q4519 q4520 (fun hF => ?_)
    obtain ⟨q4521, h⟩ := h
    refine gh_iinc (L2 := [(4, 0, v4 + 1), (0, 2, 63), (1, 0, v1), (2, 0, v2), (3, 0, v3)]) gd_Model_replaceBy_43 4 rfl q4521 (by decide) rfl ?_
    refine gh_goto (tgt := 16) gd_Model_replaceBy_46 (by decide) ?_
    refine gh_pick (L2 := [(0, 2, 63), (1, 0, v1), (2, 0, v2), (3, 0, v3), (4, 0, v4 + 1)]) [1, 2, 3, 4, 0] rfl ?_
    exact hK16 (v4 + 1) (gh_u m 117 v4 (m 117 (v4 + 1))) hF h
  · have h := hB c4515
    refine gh_pick (L2 := [(0, 2, 63), (1, 0, v1), (2, 0, v2), (3, 0, v3)]) [0, 1, 2, 3] rfl ?_
    exact hJ49 m hF h
theorem s_Model_replaceBy {E : gh_E} {m : gh_M} {Q : Int → gh_M → Prop} (d : Nat) (v1 : Int) (v2 : Int) (hF : gh_F m) (h : w_Model_replaceBy v1 v2 m Q) : gh_C E gh_yModel_replaceBy prog_14_method_106_code 5 none 9 (d + 0) [(2, 63), (0, v1), (0, v2)] m (fun r m1 => gh_F m1 ∧ Q r m1) := by
  refine gh_enter2 (L := [(0, 2, 63), (1, 0, v1), (2, 0, v2)]) (by decide +kernel) gh_rt9 (Nat.le_of_ble_eq_true rfl) rfl rfl ?_
  unfold w_Model_replaceBy at h
  refine gh_aload_n gd_Model_replaceBy_0 0 rfl (by decide) ?_
  refine gf_63_33 gd_Model_replaceBy_1 gh_k1403 hF ?_
  refine gh_iload_n gd_Model_replaceBy_4 2 rfl ?_
  obtain ⟨q4487, h⟩ := h
  obtain ⟨q4488, h⟩ := h
  refine la_80 gd_Model_replaceBy_5 hF q4487 q4488 rfl ?_
  refine gh_iconst gd_Model_replaceBy_6 (gh_r0 rfl) ?_
  obtain ⟨q4489, h⟩ := h
  refine gh_isub gd_Model_replaceBy_7 q4489 ?_
  refine gh_name (fun v3 hn => ?_)
  have h := h v3 hn
  refine gh_istore_n (L2 := [(3, 0, v3), (0, 2, 63), (1, 0, v1), (2, 0, v2)]) gd_Model_replaceBy_8 (by decide) rfl ?_
  refine gh_iload_n gd_Model_replaceBy_9 0 rfl ?_
  obtain ⟨J49, hJ49, h⟩ := h
  have hJ49 : ∀ (m : gh_M), gh_F m → J49 m → gh_T E (gh_yModel_replaceBy.cls, prog_14_method_106_code, 5, false, 9) (d + 0) 49 [(0, 2, 63), (1, 0, v1), (2, 0, v2), (3, 0, v3)] [] m (fun r m1 => gh_F m1 ∧ Q r m1) := by
    intro m hF hj
    have h := hJ49 m hj
    refine gh_aload_n gd_Model_replaceBy_49 0 rfl (by decide) ?_
    refine gf_63_82 gd_Model_replaceBy_50 gh_k1452 hF rfl ?_
    refine gh_iconst gd_Model_replaceBy_53 (gh_r0 rfl) ?_
    obtain ⟨q4490, h⟩ := h
    refine gh_isub gd_Model_replaceBy_54 q4490 ?_
    refine gh_name (fun v4 hn => ?_)
    have h := h v4 hn
    refine gh_istore (L2 := [(4, 0, v4), (0, 2, 63), (1, 0, v1), (2, 0, v2), (3, 0, v3)]) gd_Model_replaceBy_55 (by decide) rfl ?_
    refine gh_pick (L2 := [(0, 2, 63), (1, 0, v1), (2, 0, v2), (3, 0, v3), (4, 0, v4)]) [1, 2, 3, 4, 0] rfl ?_
    exact gh_M1_sound (T := fun v4 m => gh_T E (gh_yModel_replaceBy.cls, prog_14_method_106_code, 5, false, 9) (d + 0) 57 [(0, 2, 63), (1, 0, v1), (2, 0, v2), (3, 0, v3), (4, 0, v4)] [] m (fun r m1 => gh_F m1 ∧ Q r m1)) (fun _ m => gh_F m) (fun K57 v4 m hK hF h => b_Model_replaceBy_57 d hK v4 m hF h) v4 m hF h
  obtain ⟨hA, hB⟩ := h
  refine gh_zge (tgt := 49) gd_Model_replaceBy_10 (by decide) (fun c4513 => ?_) (fun c4513 => ?_)
  · have h := hA c4513
    refine gh_iload_n gd_Model_replaceBy_13 2 rfl ?_
    refine gh_istore (L2 := [(4, 0, v1), (3, 0, v3), (0, 2, 63), (1, 0, v1), (2, 0, v2)]) gd_Model_replaceBy_14 (by decide) rfl ?_
    refine gh_pick (L2 := [(0, 2, 63), (1, 0, v1), (2, 0, v2), (3, 0, v3), (4, 0, v1)]) [2, 3, 4, 1, 0] rfl ?_
    exact gh_M1_sound (T := fun v4 m => gh_T E (gh_yModel_replaceBy.cls, prog_14_method_106_code, 5, false, 9) (d + 0) 16 [(0, 2, 63), (1, 0, v1), (2, 0, v2), (3, 0, v3), (4, 0, v4)] [] m (fun r m1 => gh_F m1 ∧ Q r m1)) (fun _ m => gh_F m) (fun K16 v4 m hK hF h => b_Model_replaceBy_16 d hJ49 hK v4 m hF h) v1 m hF h
  · have h := hB c4513
    refine gh_pick (L2 := [(0, 2, 63), (1, 0, v1), (2, 0, v2), (3, 0, v3)]) [1, 2, 3, 0] rfl ?_
    exact hJ49 m hF h
def f_Model_lettersIn_4 (v0 : Int) (Q : Int → Prop) (m : gh_M) (K4 : Int → Int → Prop) (v1 : Int) (v2 : Int) : Prop := ((v2 < 26 → gh_i (v1 + (gh_iand_f (gh_ishr_f v0 v2) 1)) ∧ ∀ v1' : Int, v1' = v1 + (gh_iand_f (gh_ishr_f v0 v2) 1) → gh_i (v2 + 1) ∧ K4 v1' (v2 + 1)) ∧ (¬ (v2 < 26) → Q v1))
def w_Model_lettersIn (v0 : Int) (m : gh_M) (Q : Int → Prop) : Prop := gh_L2 (fun K4 v1 v2 => f_Model_lettersIn_4 v0 Q m K4 v1 v2) 0 0
theorem b_Model_lettersIn_4 {E : gh_E} {v0 : Int} {Q : Int → Prop} {K4 : Int → Int → Prop} (d : Nat) {m : gh_M} (hK : ∀ (v1 : Int) (v2 : Int), gh_F m → K4 v1 v2 → gh_T E (gh_yModel_lettersIn.cls, prog_14_method_109_code, 3, false, 0) (d + 0) 4 [(0, 0, v0), (1, 0, v1), (2, 0, v2)] [] m (fun r m1 => m1 = m ∧ Q r)) (v1 : Int) (v2 : Int) (hF : gh_F m) (h : f_Model_lettersIn_4 v0 Q m K4 v1 v2) : gh_T E (gh_yModel_lettersIn.cls, prog_14_method_109_code, 3, false, 0) (d + 0) 4 [(0, 0, v0), (1, 0, v1), (2, 0, v2)] [] m (fun r m1 => m1 = m ∧ Q r) := by
  have hK4 := hK
  unfold f_Model_lettersIn_4 at h
  refine gh_iload_n gd_Model_lettersIn_4 2 rfl ?_
  refine gh_bipush gd_Model_lettersIn_5 (by decide) (gh_r0 rfl) ?_
  obtain ⟨hA, hB⟩ := h
  refine gh_jge (tgt := 24) gd_Model_lettersIn_7 (by decide) (fun c4522 => ?_) (fun c4522 => ?_)
  · have h := hA c4522
    refine gh_iload_n gd_Model_lettersIn_10 1 rfl ?_
    refine gh_iload_n gd_Model_lettersIn_11 0 rfl ?_
    refine gh_iload_n gd_Model_lettersIn_12 2 rfl ?_
    refine gh_ishr gd_Model_lettersIn_13 ?_
    refine gh_iconst gd_Model_lettersIn_14 (gh_r0 rfl) ?_
    refine gh_iand gd_Model_lettersIn_15 ?_
    obtain ⟨q4523, h⟩ := h
    refine gh_iadd gd_Model_lettersIn_16 q4523 ?_
    refine gh_name (fun v1' hn => ?_)
    have h := h v1' hn
    refine gh_istore_n (L2 := [(1, 0, v1'), (0, 0, v0), (2, 0, v2)]) gd_Model_lettersIn_17 (by decide) rfl ?_
    obtain ⟨q4524, h⟩ := h
    refine gh_iinc (L2 := [(2, 0, v2 + 1), (1, 0, v1'), (0, 0, v0)]) gd_Model_lettersIn_18 2 rfl q4524 (by decide) rfl ?_
    refine gh_goto (tgt := 4) gd_Model_lettersIn_21 (by decide) ?_
    refine gh_pick (L2 := [(0, 0, v0), (1, 0, v1'), (2, 0, v2 + 1)]) [2, 1, 0] rfl ?_
    exact hK4 v1' (v2 + 1) hF h
  · have h := hB c4522
    refine gh_iload_n gd_Model_lettersIn_24 1 rfl ?_
    exact gh_ret0 rfl gd_Model_lettersIn_25 ⟨rfl, h⟩
theorem s_Model_lettersIn {E : gh_E} {m : gh_M} {Q : Int → Prop} (d : Nat) (v0 : Int) (hF : gh_F m) (h : w_Model_lettersIn v0 m Q) : gh_C E gh_yModel_lettersIn prog_14_method_109_code 3 (some .int) 0 (d + 0) [(0, v0)] m (fun r m1 => m1 = m ∧ Q r) := by
  refine gh_enter2 (L := [(0, 0, v0)]) (by decide +kernel) gh_rt0 (Nat.le_of_ble_eq_true rfl) rfl rfl ?_
  unfold w_Model_lettersIn at h
  refine gh_iconst gd_Model_lettersIn_0 (gh_r0 rfl) ?_
  refine gh_istore_n (L2 := [(1, 0, 0), (0, 0, v0)]) gd_Model_lettersIn_1 (by decide) rfl ?_
  refine gh_iconst gd_Model_lettersIn_2 (gh_r0 rfl) ?_
  refine gh_istore_n (L2 := [(2, 0, 0), (1, 0, 0), (0, 0, v0)]) gd_Model_lettersIn_3 (by decide) rfl ?_
  refine gh_pick (L2 := [(0, 0, v0), (1, 0, 0), (2, 0, 0)]) [2, 1, 0] rfl ?_
  exact gh_L2_sound (T := fun v1 v2 => gh_T E (gh_yModel_lettersIn.cls, prog_14_method_109_code, 3, false, 0) (d + 0) 4 [(0, 0, v0), (1, 0, v1), (2, 0, v2)] [] m (fun r m1 => m1 = m ∧ Q r)) (fun _ _ => gh_F m) (fun K4 v1 v2 hK hF h => b_Model_lettersIn_4 d hK v1 v2 hF h) 0 0 hF h
def f_Model_letterOf_4 (v0 : Int) (Q : Int → Prop) (m : gh_M) (K4 : Int → Int → Prop) (v2 : Int) (v3 : Int) : Prop := ∃ J16 : Prop, (J16 → gh_i (v3 - (gh_iand_f (gh_ishr_f v0 v2) 1)) ∧ ∀ v3' : Int, v3' = v3 - (gh_iand_f (gh_ishr_f v0 v2) 1) → gh_i (v2 + 1) ∧ K4 (v2 + 1) v3') ∧ (((¬ ((gh_iand_f (gh_ishr_f v0 v2) 1) = 0) ∧ (v3 ≤ 0)) → Q v2) ∧ (¬ (¬ ((gh_iand_f (gh_ishr_f v0 v2) 1) = 0) ∧ (v3 ≤ 0)) → J16))
def w_Model_letterOf (v0 : Int) (v1 : Int) (m : gh_M) (Q : Int → Prop) : Prop := gh_L2 (fun K4 v2 v3 => f_Model_letterOf_4 v0 Q m K4 v2 v3) 0 v1
theorem b_Model_letterOf_4 {E : gh_E} {v0 : Int} {Q : Int → Prop} {K4 : Int → Int → Prop} (d : Nat) {m : gh_M} (hK : ∀ (v2 : Int) (v3 : Int), gh_F m → K4 v2 v3 → gh_T E (gh_yModel_letterOf.cls, prog_14_method_110_code, 4, false, 0) (d + 0) 4 [(0, 0, v0), (2, 0, v2), (3, 0, v3)] [] m (fun r m1 => m1 = m ∧ Q r)) (v2 : Int) (v3 : Int) (hF : gh_F m) (h : f_Model_letterOf_4 v0 Q m K4 v2 v3) : gh_T E (gh_yModel_letterOf.cls, prog_14_method_110_code, 4, false, 0) (d + 0) 4 [(0, 0, v0), (2, 0, v2), (3, 0, v3)] [] m (fun r m1 => m1 = m ∧ Q r) := by
  have hK4 := hK
  unfold f_Model_letterOf_4 at h
  refine gh_iload_n gd_Model_letterOf_4 0 rfl ?_
  refine gh_iload_n gd_Model_letterOf_5 1 rfl ?_
  refine gh_ishr gd_Model_letterOf_6 ?_
  refine gh_iconst gd_Model_letterOf_7 (gh_r0 rfl) ?_
  refine gh_iand gd_Model_letterOf_8 ?_
  obtain ⟨J16, hJ16, h⟩ := h
  have hJ16 : gh_F m → J16 → gh_T E (gh_yModel_letterOf.cls, prog_14_method_110_code, 4, false, 0) (d + 0) 16 [(0, 0, v0), (2, 0, v2), (3, 0, v3)] [] m (fun r m1 => m1 = m ∧ Q r) := by
    intro hF hj
    have h := hJ16 hj
    refine gh_iload_n gd_Model_letterOf_16 2 rfl ?_
    refine gh_iload_n gd_Model_letterOf_17 0 rfl ?_
    refine gh_iload_n gd_Model_letterOf_18 1 rfl ?_
    refine gh_ishr gd_Model_letterOf_19 ?_
    refine gh_iconst gd_Model_letterOf_20 (gh_r0 rfl) ?_
    refine gh_iand gd_Model_letterOf_21 ?_
    obtain ⟨q4525, h⟩ := h
    refine gh_isub gd_Model_letterOf_22 q4525 ?_
    refine gh_name (fun v3' hn => ?_)
    have h := h v3' hn
    refine gh_istore_n (L2 := [(3, 0, v3'), (0, 0, v0), (2, 0, v2)]) gd_Model_letterOf_23 (by decide) rfl ?_
    obtain ⟨q4526, h⟩ := h
    refine gh_iinc (L2 := [(2, 0, v2 + 1), (3, 0, v3'), (0, 0, v0)]) gd_Model_letterOf_24 2 rfl q4526 (by decide) rfl ?_
    refine gh_goto (tgt := 4) gd_Model_letterOf_27 (by decide) ?_
    refine gh_pick (L2 := [(0, 0, v0), (2, 0, v2 + 1), (3, 0, v3')]) [2, 0, 1] rfl ?_
    exact hK4 (v2 + 1) v3' hF h
  obtain ⟨hA, hB⟩ := h
  have k4527 : (¬ ((gh_iand_f (gh_ishr_f v0 v2) 1) = 0) ∧ (v3 ≤ 0)) → gh_T E (gh_yModel_letterOf.cls, prog_14_method_110_code, 4, false, 0) (d + 0) 30 [(0, 0, v0), (2, 0, v2), (3, 0, v3)] [] m (fun r m1 => m1 = m ∧ Q r) := by
    intro c
    have h := hA c
    refine gh_iload_n gd_Model_letterOf_30 1 rfl ?_
    exact gh_ret0 rfl gd_Model_letterOf_31 ⟨rfl, h⟩
  have k4528 : ¬ (¬ ((gh_iand_f (gh_ishr_f v0 v2) 1) = 0) ∧ (v3 ≤ 0)) → gh_T E (gh_yModel_letterOf.cls, prog_14_method_110_code, 4, false, 0) (d + 0) 16 [(0, 0, v0), (2, 0, v2), (3, 0, v3)] [] m (fun r m1 => m1 = m ∧ Q r) := by
    intro c
    have h := hB c
    exact hJ16 hF h
  refine gh_zeq (tgt := 16) gd_Model_letterOf_9 (by decide) (fun c4529 => ?_) (fun c4529 => ?_)
  · have hz : True := trivial
    exact k4528 (fun z => z.1 c4529)
  · have hz : True := trivial
    refine gh_iload_n gd_Model_letterOf_12 2 rfl ?_
    refine gh_zle (tgt := 30) gd_Model_letterOf_13 (by decide) (fun c4530 => ?_) (fun c4530 => ?_)
    · have hz : True := trivial
      exact k4527 ⟨c4529, c4530⟩
    · have hz : True := trivial
      exact k4528 (fun z => c4530 z.2)
theorem s_Model_letterOf {E : gh_E} {m : gh_M} {Q : Int → Prop} (d : Nat) (v0 : Int) (v1 : Int) (hF : gh_F m) (h : w_Model_letterOf v0 v1 m Q) : gh_C E gh_yModel_letterOf prog_14_method_110_code 4 (some .int) 0 (d + 0) [(0, v0), (0, v1)] m (fun r m1 => m1 = m ∧ Q r) := by
  refine gh_enter2 (L := [(0, 0, v0), (1, 0, v1)]) (by decide +kernel) gh_rt0 (Nat.le_of_ble_eq_true rfl) rfl rfl ?_
  unfold w_Model_letterOf at h
  refine gh_iconst gd_Model_letterOf_0 (gh_r0 rfl) ?_
  refine gh_istore_n (L2 := [(2, 0, 0), (0, 0, v0), (1, 0, v1)]) gd_Model_letterOf_1 (by decide) rfl ?_
  refine gh_iload_n gd_Model_letterOf_2 2 rfl ?_
  refine gh_istore_n (L2 := [(3, 0, v1), (2, 0, 0), (0, 0, v0), (1, 0, v1)]) gd_Model_letterOf_3 (by decide) rfl ?_
  refine gh_pick (L2 := [(0, 0, v0), (2, 0, 0), (3, 0, v1)]) [2, 1, 0] rfl ?_
  exact gh_L2_sound (T := fun v2 v3 => gh_T E (gh_yModel_letterOf.cls, prog_14_method_110_code, 4, false, 0) (d + 0) 4 [(0, 0, v0), (2, 0, v2), (3, 0, v3)] [] m (fun r m1 => m1 = m ∧ Q r)) (fun _ _ => gh_F m) (fun K4 v2 v3 hK hF h => b_Model_letterOf_4 d hK v2 v3 hF h) 0 v1 hF h
def f_Model_drawText_16 (Q : Int → gh_M → Prop) (K16 : Int → Int → gh_M → Prop) (v1 : Int) (v2 : Int) (m : gh_M) : Prop := ((v1 < (m 63 82) → ((v2 = 60 → Q (-1) m) ∧ (¬ (v2 = 60) → gh_i (v2 + 1) ∧ 0 ≤ v1 ∧ v1 < 300 ∧ ∀ v3 : Int, v3 = m 117 v1 → ∃ J101 : Int → gh_M → Prop, (∀ (v1' : Int) (m : gh_M), J101 v1' m → K16 v1' (v2 + 1) m) ∧ ((v3 < 0 → gh_i ((-1) - v3) ∧ gh_i ((-1) - v3) ∧ w_Model_usefulRulesOf ((-1) - v3) m (fun r4539 => w_Model_draw r4539 m (fun r4541 m4542 => w_Model_usefulRuleOf ((-1) - v3) r4541 m4542 (fun r4543 => w_Model_replaceBy v1 r4543 m4542 (fun _ m4546 => J101 v1 m4546))))) ∧ (¬ (v3 < 0) → w_Model_lettersIn v3 m (fun r4547 => w_Model_draw r4547 m (fun r4549 m4550 => w_Model_letterOf v3 r4549 m4550 (fun r4551 => 0 ≤ v1 ∧ v1 < 300 ∧ gh_i (v1 + 1) ∧ (((v1 + 1) ≤ 8 → J101 (v1 + 1) (gh_u m4550 117 v1 r4551)) ∧ (¬ ((v1 + 1) ≤ 8) → Q (-1) (gh_u m4550 117 v1 r4551))))))))))) ∧ (¬ (v1 < (m 63 82)) → Q v1 m))
def w_Model_drawText (m : gh_M) (Q : Int → gh_M → Prop) : Prop := gh_M2 (fun K16 v1 v2 m => f_Model_drawText_16 Q K16 v1 v2 m) 0 0 (gh_u (gh_u m 117 0 (-1)) 63 82 1)
theorem b_Model_drawText_16 {E : gh_E} {Q : Int → gh_M → Prop} {K16 : Int → Int → gh_M → Prop} (d : Nat) (hK : ∀ (v1 : Int) (v2 : Int) (m : gh_M), gh_F m → K16 v1 v2 m → gh_T E (gh_yModel_drawText.cls, prog_14_method_111_code, 4, false, 0) (d + 1) 16 [(0, 2, 63), (1, 0, v1), (2, 0, v2)] [] m (fun r m1 => gh_F m1 ∧ Q r m1)) (v1 : Int) (v2 : Int) (m : gh_M) (hF : gh_F m) (h : f_Model_drawText_16 Q K16 v1 v2 m) : gh_T E (gh_yModel_drawText.cls, prog_14_method_111_code, 4, false, 0) (d + 1) 16 [(0, 2, 63), (1, 0, v1), (2, 0, v2)] [] m (fun r m1 => gh_F m1 ∧ Q r m1) := by
  have hK16 := hK
  unfold f_Model_drawText_16 at h
  refine gh_iload_n gd_Model_drawText_16 1 rfl ?_
  refine gh_aload_n gd_Model_drawText_17 0 rfl (by decide) ?_
  refine gf_63_82 gd_Model_drawText_18 gh_k1452 hF rfl ?_
  obtain ⟨hA, hB⟩ := h
  refine gh_jge (tgt := 104) gd_Model_drawText_21 (by decide) (fun c4531 => ?_) (fun c4531 => ?_)
  · have h := hA c4531
    refine gh_iload_n gd_Model_drawText_24 2 rfl ?_
    refine gh_bipush gd_Model_drawText_25 (by decide) (gh_r0 rfl) ?_
    obtain ⟨hA, hB⟩ := h
    refine gh_jne (tgt := 32) gd_Model_drawText_27 (by decide) (fun c4532 => ?_) (fun c4532 => ?_)
    · have h := hA c4532
      refine gh_iconst gd_Model_drawText_30 (gh_r0 rfl) ?_
      exact gh_ret0 rfl gd_Model_drawText_31 ⟨hF, h⟩
    · have h := hB c4532
      obtain ⟨q4533, h⟩ := h
      refine gh_iinc (L2 := [(2, 0, v2 + 1), (0, 2, 63), (1, 0, v1)]) gd_Model_drawText_32 2 rfl q4533 (by decide) rfl ?_
      refine gh_aload_n gd_Model_drawText_35 1 rfl (by decide) ?_
      refine gf_63_81 gd_Model_drawText_36 gh_k1451 hF ?_
      refine gh_iload_n gd_Model_drawText_39 2 rfl ?_
      obtain ⟨q4534, h⟩ := h
      obtain ⟨q4535, h⟩ := h
      refine la_117 gd_Model_drawText_40 hF q4534 q4535 rfl ?_
      refine gh_name (fun v3 hn => ?_)
      have h := h v3 hn
      refine gh_istore_n (L2 := [(3, 0, v3), (2, 0, v2 + 1), (0, 2, 63), (1, 0, v1)]) gd_Model_drawText_41 (by decide) rfl ?_
      refine gh_iload_n gd_Model_drawText_42 0 rfl ?_
      obtain ⟨J101, hJ101, h⟩ := h
      have hJ101 : ∀ (v1' : Int) (m : gh_M), gh_F m → J101 v1' m → gh_T E (gh_yModel_drawText.cls, prog_14_method_111_code, 4, false, 0) (d + 1) 101 [(0, 2, 63), (1, 0, v1'), (2, 0, v2 + 1)] [] m (fun r m1 => gh_F m1 ∧ Q r m1) := by
        intro v1' m hF hj
        have h := hJ101 v1' m hj
        refine gh_goto (tgt := 16) gd_Model_drawText_101 (by decide) ?_
        exact hK16 v1' (v2 + 1) m hF h
      obtain ⟨hA, hB⟩ := h
      refine gh_zge (tgt := 72) gd_Model_drawText_43 (by decide) (fun c4536 => ?_) (fun c4536 => ?_)
      · have h := hA c4536
        refine gh_aload_n gd_Model_drawText_46 2 rfl (by decide) ?_
        refine gh_iload_n gd_Model_drawText_47 3 rfl ?_
        refine gh_aload_n gd_Model_drawText_48 2 rfl (by decide) ?_
        refine gh_iconst gd_Model_drawText_49 (gh_r0 rfl) ?_
        refine gh_iload_n gd_Model_drawText_50 0 rfl ?_
        obtain ⟨q4537, h⟩ := h
        refine gh_isub gd_Model_drawText_51 q4537 ?_
        refine gh_aload_n gd_Model_drawText_52 2 rfl (by decide) ?_
        refine gh_aload_n gd_Model_drawText_53 2 rfl (by decide) ?_
        refine gh_iconst gd_Model_drawText_54 (gh_r0 rfl) ?_
        refine gh_iload_n gd_Model_drawText_55 0 rfl ?_
        obtain ⟨q4538, h⟩ := h
        refine gh_isub gd_Model_drawText_56 q4538 ?_
        refine cv_Model_usefulRulesOf (d := d) gd_Model_drawText_57 gh_k2046 hF (Nat.le_of_ble_eq_true rfl) (gh_C.pw (s_Model_usefulRulesOf d ((-1) - v3) hF h) (fun r4539 h => ?_))
        refine cv_Model_draw (d := d) gd_Model_drawText_60 gh_k2050 hF (Nat.le_of_ble_eq_true rfl) (gh_C.mono (s_Model_draw d r4539 hF h) (fun r4541 m4542 hq => ?_))
        obtain ⟨hF, h⟩ := hq
        refine cv_Model_usefulRuleOf (d := d) gd_Model_drawText_63 gh_k2055 hF (Nat.le_of_ble_eq_true rfl) (gh_C.pw (s_Model_usefulRuleOf d ((-1) - v3) r4541 hF h) (fun r4543 h => ?_))
        refine cv_Model_replaceBy (d := d) gd_Model_drawText_66 gh_k2059 hF (Nat.le_of_ble_eq_true rfl) (gh_C.mono (s_Model_replaceBy d v1 r4543 hF h) (fun r4545 m4546 hq => ?_))
        obtain ⟨hF, h⟩ := hq
        refine gh_goto (tgt := 101) gd_Model_drawText_69 (by decide) ?_
        refine gh_pick (L2 := [(0, 2, 63), (1, 0, v1), (2, 0, v2 + 1)]) [2, 3, 1] rfl ?_
        exact hJ101 v1 m4546 hF h
      · have h := hB c4536
        refine gh_aload_n gd_Model_drawText_72 2 rfl (by decide) ?_
        refine gf_63_81 gd_Model_drawText_73 gh_k1451 hF ?_
        refine gh_iload_n gd_Model_drawText_76 3 rfl ?_
        refine gh_iload_n gd_Model_drawText_77 0 rfl ?_
        refine gh_aload_n gd_Model_drawText_78 2 rfl (by decide) ?_
        refine gh_iload_n gd_Model_drawText_79 0 rfl ?_
        refine cv_Model_lettersIn (d := d) gd_Model_drawText_80 gh_k2063 (Nat.le_of_ble_eq_true rfl) (gh_C.pw (s_Model_lettersIn d v3 hF h) (fun r4547 h => ?_))
        refine cv_Model_draw (d := d) gd_Model_drawText_83 gh_k2050 hF (Nat.le_of_ble_eq_true rfl) (gh_C.mono (s_Model_draw d r4547 hF h) (fun r4549 m4550 hq => ?_))
        obtain ⟨hF, h⟩ := hq
        refine cv_Model_letterOf (d := d) gd_Model_drawText_86 gh_k2066 (Nat.le_of_ble_eq_true rfl) (gh_C.pw (s_Model_letterOf d v3 r4549 hF h) (fun r4551 h => ?_))
        obtain ⟨q4553, h⟩ := h
        obtain ⟨q4554, h⟩ := h
        refine sa_117 gd_Model_drawText_89 hF q4553 q4554 (fun hF => ?_)
        obtain ⟨q4555, h⟩ := h
        refine gh_iinc (L2 := [(1, 0, v1 + 1), (3, 0, v3), (2, 0, v2 + 1), (0, 2, 63)]) gd_Model_drawText_90 3 rfl q4555 (by decide) rfl ?_
        refine gh_iload_n gd_Model_drawText_93 0 rfl ?_
        refine gh_bipush gd_Model_drawText_94 (by decide) (gh_r0 rfl) ?_
        obtain ⟨hA, hB⟩ := h
        refine gh_jle (tgt := 101) gd_Model_drawText_96 (by decide) (fun c4556 => ?_) (fun c4556 => ?_)
        · have h := hA c4556
          refine gh_pick (L2 := [(0, 2, 63), (1, 0, v1 + 1), (2, 0, v2 + 1)]) [3, 0, 2] rfl ?_
          exact hJ101 (v1 + 1) (gh_u m4550 117 v1 r4551) hF h
        · have h := hB c4556
          refine gh_iconst gd_Model_drawText_99 (gh_r0 rfl) ?_
          exact gh_ret0 rfl gd_Model_drawText_100 ⟨hF, h⟩
  · have h := hB c4531
    refine gh_iload_n gd_Model_drawText_104 1 rfl ?_
    exact gh_ret0 rfl gd_Model_drawText_105 ⟨hF, h⟩
theorem s_Model_drawText {E : gh_E} {m : gh_M} {Q : Int → gh_M → Prop} (d : Nat) (hF : gh_F m) (h : w_Model_drawText m Q) : gh_C E gh_yModel_drawText prog_14_method_111_code 4 (some .int) 0 (d + 1) [(2, 63)] m (fun r m1 => gh_F m1 ∧ Q r m1) := by
  refine gh_enter2 (L := [(0, 2, 63)]) (by decide +kernel) gh_rt0 (Nat.le_of_ble_eq_true rfl) rfl rfl ?_
  unfold w_Model_drawText at h
  refine gh_aload_n gd_Model_drawText_0 0 rfl (by decide) ?_
  refine gf_63_81 gd_Model_drawText_1 gh_k1451 hF ?_
  refine gh_iconst gd_Model_drawText_4 (gh_r0 rfl) ?_
  refine gh_iconst gd_Model_drawText_5 (gh_r0 rfl) ?_
  refine sa_117 gd_Model_drawText_6 hF (by decide) (by decide) (fun hF => ?_)
  refine gh_aload_n gd_Model_drawText_7 0 rfl (by decide) ?_
  refine gh_iconst gd_Model_drawText_8 (gh_r0 rfl) ?_
  refine pf_63_82 gd_Model_drawText_9 gh_k1452 hF (fun hF => ?_)
  refine gh_iconst gd_Model_drawText_12 (gh_r0 rfl) ?_
  refine gh_istore_n (L2 := [(1, 0, 0), (0, 2, 63)]) gd_Model_drawText_13 (by decide) rfl ?_
  refine gh_iconst gd_Model_drawText_14 (gh_r0 rfl) ?_
  refine gh_istore_n (L2 := [(2, 0, 0), (1, 0, 0), (0, 2, 63)]) gd_Model_drawText_15 (by decide) rfl ?_
  refine gh_pick (L2 := [(0, 2, 63), (1, 0, 0), (2, 0, 0)]) [2, 1, 0] rfl ?_
  exact gh_M2_sound (T := fun v1 v2 m => gh_T E (gh_yModel_drawText.cls, prog_14_method_111_code, 4, false, 0) (d + 1) 16 [(0, 2, 63), (1, 0, v1), (2, 0, v2)] [] m (fun r m1 => gh_F m1 ∧ Q r m1)) (fun _ _ m => gh_F m) (fun K16 v1 v2 m hK hF h => b_Model_drawText_16 d hK v1 v2 m hF h) 0 0 (gh_u (gh_u m 117 0 (-1)) 63 82 1) hF h
def f_Model_made_66 (Q : Int → gh_M → Prop) (K66 : Int → gh_M → Prop) (v3 : Int) (m : gh_M) : Prop := ((v3 < (m 63 50) → 0 ≤ v3 ∧ v3 < 300 ∧ 0 ≤ v3 ∧ v3 < 8 ∧ gh_i (v3 + 1) ∧ K66 (v3 + 1) (gh_u m 96 v3 (m 117 v3))) ∧ (¬ (v3 < (m 63 50)) → w_Model_changed m (fun _ m4567 => Q (m4567 63 50) m4567)))
def w_Model_made (v1 : Int) (m : gh_M) (Q : Int → gh_M → Prop) : Prop := (((¬ (v1 < 0) ∧ (v1 ≤ 65535)) → (((m 63 24) = 0 → Q (-1003) m) ∧ (¬ ((m 63 24) = 0) → ∃ J51 : Int → gh_M → Prop, (∀ (y0 : Int) (m : gh_M), J51 y0 m → ((y0 = (-1) → Q (-1) m) ∧ (¬ (y0 = (-1)) → gh_M1 (fun K66 v3 m => f_Model_made_66 Q K66 v3 m) 0 (gh_u m 63 50 y0)))) ∧ (((m 82 0) < 1000000000 → w_Model_drawText (gh_u m 63 83 v1) (fun r4569 m4570 => J51 r4569 m4570)) ∧ (¬ ((m 82 0) < 1000000000) → J51 (-1) (gh_u m 63 83 v1)))))) ∧ (¬ ((¬ (v1 < 0) ∧ (v1 ≤ 65535))) → Q (-1002) m))
theorem b_Model_made_66 {E : gh_E} {Q : Int → gh_M → Prop} {K66 : Int → gh_M → Prop} (d : Nat) (hK : ∀ (v3 : Int) (m : gh_M), gh_F m → K66 v3 m → gh_T E (gh_yModel_made.cls, prog_14_method_112_code, 4, false, 0) (d + 2) 66 [(0, 2, 63), (3, 0, v3)] [] m (fun r m1 => gh_F m1 ∧ Q r m1)) (v3 : Int) (m : gh_M) (hF : gh_F m) (h : f_Model_made_66 Q K66 v3 m) : gh_T E (gh_yModel_made.cls, prog_14_method_112_code, 4, false, 0) (d + 2) 66 [(0, 2, 63), (3, 0, v3)] [] m (fun r m1 => gh_F m1 ∧ Q r m1) := by
  have hK66 := hK
  unfold f_Model_made_66 at h
  refine gh_iload_n gd_Model_made_66 1 rfl ?_
  refine gh_aload_n gd_Model_made_67 0 rfl (by decide) ?_
  refine gf_63_50 gd_Model_made_68 gh_k1420 hF rfl ?_
  obtain ⟨hA, hB⟩ := h
  refine gh_jge (tgt := 92) gd_Model_made_71 (by decide) (fun c4560 => ?_) (fun c4560 => ?_)
  · have h := hA c4560
    refine gh_aload_n gd_Model_made_74 0 rfl (by decide) ?_
    refine gf_63_51 gd_Model_made_75 gh_k1421 hF ?_
    refine gh_iload_n gd_Model_made_78 1 rfl ?_
    refine gh_aload_n gd_Model_made_79 0 rfl (by decide) ?_
    refine gf_63_81 gd_Model_made_80 gh_k1451 hF ?_
    refine gh_iload_n gd_Model_made_83 1 rfl ?_
    obtain ⟨q4561, h⟩ := h
    obtain ⟨q4562, h⟩ := h
    refine la_117 gd_Model_made_84 hF q4561 q4562 rfl ?_
    obtain ⟨q4563, h⟩ := h
    obtain ⟨q4564, h⟩ := h
    refine sa_96 gd_Model_made_85 hF q4563 q4564 (fun hF => ?_)
    obtain ⟨q4565, h⟩ := h
    refine gh_iinc (L2 := [(3, 0, v3 + 1), (0, 2, 63)]) gd_Model_made_86 1 rfl q4565 (by decide) rfl ?_
    refine gh_goto (tgt := 66) gd_Model_made_89 (by decide) ?_
    refine gh_pick (L2 := [(0, 2, 63), (3, 0, v3 + 1)]) [1, 0] rfl ?_
    exact hK66 (v3 + 1) (gh_u m 96 v3 (m 117 v3)) hF h
  · have h := hB c4560
    refine gh_aload_n gd_Model_made_92 0 rfl (by decide) ?_
    refine cv_Model_changed (d := d + 1) gd_Model_made_93 gh_k1804 hF (Nat.le_of_ble_eq_true rfl) (gh_C.mono (s_Model_changed (d + 1) hF h) (fun r4566 m4567 hq => ?_))
    obtain ⟨hF, h⟩ := hq
    refine gh_aload_n gd_Model_made_96 0 rfl (by decide) ?_
    refine gf_63_50 gd_Model_made_97 gh_k1420 hF rfl ?_
    exact gh_ret0 rfl gd_Model_made_100 ⟨hF, h⟩
theorem s_Model_made {E : gh_E} {m : gh_M} {Q : Int → gh_M → Prop} (d : Nat) (v1 : Int) (hF : gh_F m) (h : w_Model_made v1 m Q) : gh_C E gh_yModel_made prog_14_method_112_code 4 (some .int) 0 (d + 2) [(2, 63), (0, v1)] m (fun r m1 => gh_F m1 ∧ Q r m1) := by
  refine gh_enter2 (L := [(0, 2, 63), (1, 0, v1)]) (by decide +kernel) gh_rt0 (Nat.le_of_ble_eq_true rfl) rfl rfl ?_
  unfold w_Model_made at h
  refine gh_iload_n gd_Model_made_0 1 rfl ?_
  refine gh_iconst gd_Model_made_1 (gh_r0 rfl) ?_
  refine gh_ldcw (n := 65535) gd_Model_made_2 gh_k2041 (by decide) (gh_r0 rfl) ?_
  refine cv_Model_in (d := d + 1) gd_Model_made_5 gh_k1631 (Nat.le_of_ble_eq_true rfl) (gh_C.pe (e_Model_in (d + 1) v1 0 65535) ?_)
  obtain ⟨hA, hB⟩ := h
  refine gh_bne (tgt := 15) gd_Model_made_8 (by decide) (fun c4557 => ?_) (fun c4557 => ?_)
  · have h := hA c4557
    refine gh_aload_n gd_Model_made_15 0 rfl (by decide) ?_
    refine gf_63_24 gd_Model_made_16 gh_k1394 hF rfl ?_
    obtain ⟨hA, hB⟩ := h
    refine gh_zne (tgt := 26) gd_Model_made_19 (by decide) (fun c4558 => ?_) (fun c4558 => ?_)
    · have h := hA c4558
      refine gh_sipush gd_Model_made_22 (by decide) (gh_r0 rfl) ?_
      exact gh_ret0 rfl gd_Model_made_25 ⟨hF, h⟩
    · have h := hB c4558
      refine gh_aload_n gd_Model_made_26 0 rfl (by decide) ?_
      refine gh_iload_n gd_Model_made_27 1 rfl ?_
      refine pf_63_83 gd_Model_made_28 gh_k1453 hF (fun hF => ?_)
      refine gh_aload_n gd_Model_made_31 0 rfl (by decide) ?_
      refine gf_63_35 gd_Model_made_32 gh_k1405 hF ?_
      refine gh_iconst gd_Model_made_35 (gh_r0 rfl) ?_
      refine la_82 gd_Model_made_36 hF (by decide) (by decide) (gh_u_a (by decide)) ?_
      refine gh_ldcw (n := 1000000000) gd_Model_made_37 gh_k1744 (by decide) (gh_r0 rfl) ?_
      obtain ⟨J51, hJ51, h⟩ := h
      have hJ51 : ∀ (y0 : Int) (m : gh_M), gh_F m → J51 y0 m → gh_T E (gh_yModel_made.cls, prog_14_method_112_code, 4, false, 0) (d + 2) 51 [(0, 2, 63)] [(0, y0)] m (fun r m1 => gh_F m1 ∧ Q r m1) := by
        intro y0 m hF hj
        have h := hJ51 y0 m hj
        refine gh_istore_n (L2 := [(2, 0, y0), (0, 2, 63)]) gd_Model_made_51 (by decide) rfl ?_
        refine gh_iload_n gd_Model_made_52 0 rfl ?_
        refine gh_iconst gd_Model_made_53 (gh_r0 rfl) ?_
        obtain ⟨hA, hB⟩ := h
        refine gh_jne (tgt := 59) gd_Model_made_54 (by decide) (fun c4559 => ?_) (fun c4559 => ?_)
        · have h := hA c4559
          refine gh_iconst gd_Model_made_57 (gh_r0 rfl) ?_
          exact gh_ret0 rfl gd_Model_made_58 ⟨hF, h⟩
        · have h := hB c4559
          refine gh_aload_n gd_Model_made_59 1 rfl (by decide) ?_
          refine gh_iload_n gd_Model_made_60 0 rfl ?_
          refine pf_63_50 gd_Model_made_61 gh_k1420 hF (fun hF => ?_)
          refine gh_iconst gd_Model_made_64 (gh_r0 rfl) ?_
          refine gh_istore_n (L2 := [(3, 0, 0), (2, 0, y0), (0, 2, 63)]) gd_Model_made_65 (by decide) rfl ?_
          refine gh_pick (L2 := [(0, 2, 63), (3, 0, 0)]) [2, 0] rfl ?_
          exact gh_M1_sound (T := fun v3 m => gh_T E (gh_yModel_made.cls, prog_14_method_112_code, 4, false, 0) (d + 2) 66 [(0, 2, 63), (3, 0, v3)] [] m (fun r m1 => gh_F m1 ∧ Q r m1)) (fun _ m => gh_F m) (fun K66 v3 m hK hF h => b_Model_made_66 d hK v3 m hF h) 0 (gh_u m 63 50 y0) hF h
      obtain ⟨hA, hB⟩ := h
      refine gh_jge (tgt := 50) gd_Model_made_40 (by decide) (fun c4568 => ?_) (fun c4568 => ?_)
      · have h := hA c4568
        refine gh_aload_n gd_Model_made_43 0 rfl (by decide) ?_
        refine cv_Model_drawText (d := d + 1) gd_Model_made_44 gh_k2042 hF (Nat.le_of_ble_eq_true rfl) (gh_C.mono (s_Model_drawText d hF h) (fun r4569 m4570 hq => ?_))
        obtain ⟨hF, h⟩ := hq
        refine gh_goto (tgt := 51) gd_Model_made_47 (by decide) ?_
        refine gh_pick (L2 := [(0, 2, 63)]) [0] rfl ?_
        exact hJ51 r4569 m4570 hF h
      · have h := hB c4568
        refine gh_iconst gd_Model_made_50 (gh_r0 rfl) ?_
        refine gh_pick (L2 := [(0, 2, 63)]) [0] rfl ?_
        exact hJ51 (-1) (gh_u m 63 83 v1) hF h
  · have h := hB c4557
    refine gh_sipush gd_Model_made_11 (by decide) (gh_r0 rfl) ?_
    exact gh_ret0 rfl gd_Model_made_14 ⟨hF, h⟩
def f_Model_hashNames_17 (v5 : Int) (K5 : Int → Int → Prop) (m : gh_M) (K17 : Int → Int → Prop) (v3 : Int) (v6 : Int) : Prop := ((v6 < 8 → w_Model_name v5 v6 m (fun r4573 => ∀ v3' : Int, v3' = x_Model_hash v3 r4573 → gh_i (v6 + 1) ∧ K17 v3' (v6 + 1))) ∧ (¬ (v6 < 8) → 0 ≤ v5 ∧ v5 < 8 ∧ 0 ≤ v5 ∧ v5 < 8 ∧ ∀ v3' : Int, v3' = x_Model_hash (x_Model_hash v3 (m 86 v5)) (m 87 v5) → gh_i (v5 + 1) ∧ K5 v3' (v5 + 1)))
def f_Model_hashNames_5 (Q : Int → Prop) (m : gh_M) (K5 : Int → Int → Prop) (v3 : Int) (v5 : Int) : Prop := ((v5 < (m 63 26) → gh_L2 (fun K17 v3 v6 => f_Model_hashNames_17 v5 K5 m K17 v3 v6) v3 0) ∧ (¬ (v5 < (m 63 26)) → Q v3))
def w_Model_hashNames (v1 : Int) (m : gh_M) (Q : Int → Prop) : Prop := gh_L2 (fun K5 v3 v5 => f_Model_hashNames_5 Q m K5 v3 v5) v1 0
theorem b_Model_hashNames_17 {E : gh_E} {v5 : Int} {K5 : Int → Int → Prop} {Q : Int → Prop} {K17 : Int → Int → Prop} (d : Nat) {m : gh_M} (hK5 : ∀ (v3 : Int) (v5 : Int), gh_F m → K5 v3 v5 → gh_T E (gh_yModel_hashNames.cls, prog_14_method_114_code, 7, false, 1) (d + 3) 5 [(0, 2, 63), (3, 1, v3), (5, 0, v5)] [] m (fun r m1 => m1 = m ∧ Q r)) (hK : ∀ (v3 : Int) (v6 : Int), gh_F m → K17 v3 v6 → gh_T E (gh_yModel_hashNames.cls, prog_14_method_114_code, 7, false, 1) (d + 3) 17 [(0, 2, 63), (3, 1, v3), (5, 0, v5), (6, 0, v6)] [] m (fun r m1 => m1 = m ∧ Q r)) (v3 : Int) (v6 : Int) (hF : gh_F m) (h : f_Model_hashNames_17 v5 K5 m K17 v3 v6) : gh_T E (gh_yModel_hashNames.cls, prog_14_method_114_code, 7, false, 1) (d + 3) 17 [(0, 2, 63), (3, 1, v3), (5, 0, v5), (6, 0, v6)] [] m (fun r m1 => m1 = m ∧ Q r) := by
  have hK17 := hK
  unfold f_Model_hashNames_17 at h
  refine gh_iload gd_Model_hashNames_17 3 rfl ?_
  refine gh_bipush gd_Model_hashNames_19 (by decide) (gh_r0 rfl) ?_
  obtain ⟨hA, hB⟩ := h
  refine gh_jge (tgt := 44) gd_Model_hashNames_21 (by decide) (fun c4572 => ?_) (fun c4572 => ?_)
  · have h := hA c4572
    refine gh_lload_n gd_Model_hashNames_24 1 rfl ?_
    refine gh_aload_n gd_Model_hashNames_25 0 rfl (by decide) ?_
    refine gh_iload gd_Model_hashNames_26 2 rfl ?_
    refine gh_iload gd_Model_hashNames_28 3 rfl ?_
    refine cv_Model_name (d := d + 2) gd_Model_hashNames_30 gh_k2083 hF (Nat.le_of_ble_eq_true rfl) (gh_C.pw (s_Model_name d v5 v6 hF h) (fun r4573 h => ?_))
    refine gh_i2l gd_Model_hashNames_33 ?_
    refine cv_Model_hash (d := d + 2) gd_Model_hashNames_34 gh_k2074 (Nat.le_of_ble_eq_true rfl) (gh_C.pe (e_Model_hash (d + 2) v3 r4573) ?_)
    refine gh_name (fun v3' hn => ?_)
    have h := h v3' hn
    refine gh_lstore_n (L2 := [(3, 1, v3'), (0, 2, 63), (5, 0, v5), (6, 0, v6)]) gd_Model_hashNames_37 (by decide) rfl ?_
    obtain ⟨q4575, h⟩ := h
    refine gh_iinc (L2 := [(6, 0, v6 + 1), (3, 1, v3'), (0, 2, 63), (5, 0, v5)]) gd_Model_hashNames_38 3 rfl q4575 (by decide) rfl ?_
    refine gh_goto (tgt := 17) gd_Model_hashNames_41 (by decide) ?_
    refine gh_pick (L2 := [(0, 2, 63), (3, 1, v3'), (5, 0, v5), (6, 0, v6 + 1)]) [2, 1, 3, 0] rfl ?_
    exact hK17 v3' (v6 + 1) hF h
  · have h := hB c4572
    refine gh_lload_n gd_Model_hashNames_44 1 rfl ?_
    refine gh_aload_n gd_Model_hashNames_45 0 rfl (by decide) ?_
    refine gf_63_39 gd_Model_hashNames_46 gh_k1409 hF ?_
    refine gh_iload gd_Model_hashNames_49 2 rfl ?_
    obtain ⟨q4576, h⟩ := h
    obtain ⟨q4577, h⟩ := h
    refine la_86 gd_Model_hashNames_51 hF q4576 q4577 rfl ?_
    refine gh_i2l gd_Model_hashNames_52 ?_
    refine cv_Model_hash (d := d + 2) gd_Model_hashNames_53 gh_k2074 (Nat.le_of_ble_eq_true rfl) (gh_C.pe (e_Model_hash (d + 2) v3 (m 86 v5)) ?_)
    refine gh_aload_n gd_Model_hashNames_56 0 rfl (by decide) ?_
    refine gf_63_40 gd_Model_hashNames_57 gh_k1410 hF ?_
    refine gh_iload gd_Model_hashNames_60 2 rfl ?_
    obtain ⟨q4578, h⟩ := h
    obtain ⟨q4579, h⟩ := h
    refine la_87 gd_Model_hashNames_62 hF q4578 q4579 rfl ?_
    refine gh_i2l gd_Model_hashNames_63 ?_
    refine cv_Model_hash (d := d + 2) gd_Model_hashNames_64 gh_k2074 (Nat.le_of_ble_eq_true rfl) (gh_C.pe (e_Model_hash (d + 2) (x_Model_hash v3 (m 86 v5)) (m 87 v5)) ?_)
    refine gh_name (fun v3' hn => ?_)
    have h := h v3' hn
    refine gh_lstore_n (L2 := [(3, 1, v3'), (0, 2, 63), (5, 0, v5), (6, 0, v6)]) gd_Model_hashNames_67 (by decide) rfl ?_
    obtain ⟨q4580, h⟩ := h
    refine gh_iinc (L2 := [(5, 0, v5 + 1), (3, 1, v3'), (0, 2, 63), (6, 0, v6)]) gd_Model_hashNames_68 2 rfl q4580 (by decide) rfl ?_
    refine gh_goto (tgt := 5) gd_Model_hashNames_71 (by decide) ?_
    refine gh_pick (L2 := [(0, 2, 63), (3, 1, v3'), (5, 0, v5 + 1)]) [2, 1, 0] rfl ?_
    exact hK5 v3' (v5 + 1) hF h
theorem b_Model_hashNames_5 {E : gh_E} {Q : Int → Prop} {K5 : Int → Int → Prop} (d : Nat) {m : gh_M} (hK : ∀ (v3 : Int) (v5 : Int), gh_F m → K5 v3 v5 → gh_T E (gh_yModel_hashNames.cls, prog_14_method_114_code, 7, false, 1) (d + 3) 5 [(0, 2, 63), (3, 1, v3), (5, 0, v5)] [] m (fun r m1 => m1 = m ∧ Q r)) (v3 : Int) (v5 : Int) (hF : gh_F m) (h : f_Model_hashNames_5 Q m K5 v3 v5) : gh_T E (gh_yModel_hashNames.cls, prog_14_method_114_code, 7, false, 1) (d + 3) 5 [(0, 2, 63), (3, 1, v3), (5, 0, v5)] [] m (fun r m1 => m1 = m ∧ Q r) := by
  have hK5 := hK
  unfold f_Model_hashNames_5 at h
  refine gh_iload gd_Model_hashNames_5 2 rfl ?_
  refine gh_aload_n gd_Model_hashNames_7 0 rfl (by decide) ?_
  refine gf_63_26 gd_Model_hashNames_8 gh_k1396 hF rfl ?_
  obtain ⟨hA, hB⟩ := h
  refine gh_jge (tgt := 74) gd_Model_hashNames_11 (by decide) (fun c4571 => ?_) (fun c4571 => ?_)
  · have h := hA c4571
    refine gh_iconst gd_Model_hashNames_14 (gh_r0 rfl) ?_
    refine gh_istore (L2 := [(6, 0, 0), (0, 2, 63), (3, 1, v3), (5, 0, v5)]) gd_Model_hashNames_15 (by decide) rfl ?_
    refine gh_pick (L2 := [(0, 2, 63), (3, 1, v3), (5, 0, v5), (6, 0, 0)]) [1, 2, 3, 0] rfl ?_
    exact gh_L2_sound (T := fun v3 v6 => gh_T E (gh_yModel_hashNames.cls, prog_14_method_114_code, 7, false, 1) (d + 3) 17 [(0, 2, 63), (3, 1, v3), (5, 0, v5), (6, 0, v6)] [] m (fun r m1 => m1 = m ∧ Q r)) (fun _ _ => gh_F m) (fun K17 v3 v6 hK hF h => b_Model_hashNames_17 d hK5 hK v3 v6 hF h) v3 0 hF h
  · have h := hB c4571
    refine gh_lload_n gd_Model_hashNames_74 1 rfl ?_
    exact gh_ret1 rfl gd_Model_hashNames_75 ⟨rfl, h⟩
theorem s_Model_hashNames {E : gh_E} {m : gh_M} {Q : Int → Prop} (d : Nat) (v1 : Int) (hF : gh_F m) (h : w_Model_hashNames v1 m Q) : gh_C E gh_yModel_hashNames prog_14_method_114_code 7 (some .long) 1 (d + 3) [(2, 63), (1, v1)] m (fun r m1 => m1 = m ∧ Q r) := by
  refine gh_enter2 (L := [(0, 2, 63), (1, 1, v1)]) (by decide +kernel) gh_rt1 (Nat.le_of_ble_eq_true rfl) rfl rfl ?_
  unfold w_Model_hashNames at h
  refine gh_lload_n gd_Model_hashNames_0 1 rfl ?_
  refine gh_lstore_n (L2 := [(3, 1, v1), (0, 2, 63), (1, 1, v1)]) gd_Model_hashNames_1 (by decide) rfl ?_
  refine gh_iconst gd_Model_hashNames_2 (gh_r0 rfl) ?_
  refine gh_istore (L2 := [(5, 0, 0), (3, 1, v1), (0, 2, 63), (1, 1, v1)]) gd_Model_hashNames_3 (by decide) rfl ?_
  refine gh_pick (L2 := [(0, 2, 63), (3, 1, v1), (5, 0, 0)]) [2, 1, 0] rfl ?_
  exact gh_L2_sound (T := fun v3 v5 => gh_T E (gh_yModel_hashNames.cls, prog_14_method_114_code, 7, false, 1) (d + 3) 5 [(0, 2, 63), (3, 1, v3), (5, 0, v5)] [] m (fun r m1 => m1 = m ∧ Q r)) (fun _ _ => gh_F m) (fun K5 v3 v5 hK hF h => b_Model_hashNames_5 d hK v3 v5 hF h) v1 0 hF h
def f_Model_digest_143 (Q : Int → gh_M → Prop) (m : gh_M) (K143 : Int → Int → Prop) (v1 : Int) (v3 : Int) : Prop := ((v3 < (m 63 68) → 0 ≤ v3 ∧ v3 < 300 ∧ ∀ v1' : Int, v1' = x_Model_hash v1 (m 109 v3) → gh_i (v3 + 1) ∧ K143 v1' (v3 + 1)) ∧ (¬ (v3 < (m 63 68)) → w_Model_proper 0 m (fun r4604 => w_Model_proper 1 m (fun r4606 => w_Model_proper 2 m (fun r4608 => Q (x_Model_hash (x_Model_hash (x_Model_hash v1 r4604) r4606) r4608) m)))))
def f_Model_digest_98 (Q : Int → gh_M → Prop) (K98 : Int → Int → gh_M → Prop) (v1 : Int) (v3 : Int) (m : gh_M) : Prop := ((v3 ≤ (m 63 50) → w_Model_next2 v3 m (fun r4593 m4594 => w_Model_items v3 m4594 (fun r4595 m4596 => w_Model_end v3 m4596 (fun r4597 m4598 => ∀ v1' : Int, v1' = x_Model_hash (x_Model_hash (x_Model_hash v1 r4593) r4595) r4597 → gh_i (v3 + 1) ∧ K98 v1' (v3 + 1) m4598)))) ∧ (¬ (v3 ≤ (m 63 50)) → gh_L2 (fun K143 v1 v3 => f_Model_digest_143 Q m K143 v1 v3) v1 0))
def f_Model_digest_70 (Q : Int → gh_M → Prop) (m : gh_M) (K70 : Int → Int → Prop) (v1 : Int) (v3 : Int) : Prop := ((v3 < (m 63 50) → 0 ≤ v3 ∧ v3 < 8 ∧ ∀ v1' : Int, v1' = x_Model_hash v1 (m 96 v3) → gh_i (v3 + 1) ∧ K70 v1' (v3 + 1)) ∧ (¬ (v3 < (m 63 50)) → gh_M2 (fun K98 v1 v3 m => f_Model_digest_98 Q K98 v1 v3 m) v1 0 m))
def f_Model_digest_39 (Q : Int → gh_M → Prop) (m : gh_M) (K39 : Int → Int → Prop) (v1 : Int) (v3 : Int) : Prop := ((v3 < 7 → w_Model_sum v3 m (fun r4583 => ∀ v1' : Int, v1' = x_Model_hash v1 r4583 → gh_i (v3 + 1) ∧ K39 v1' (v3 + 1))) ∧ (¬ (v3 < 7) → w_Model_hashNames v1 m (fun r4586 => gh_L2 (fun K70 v1 v3 => f_Model_digest_70 Q m K70 v1 v3) r4586 0)))
def w_Model_digest (m : gh_M) (Q : Int → gh_M → Prop) : Prop := ∀ v1 : Int, v1 = x_Model_hash (x_Model_hash (x_Model_hash 17 (m 63 1)) (m 63 2)) (m 63 3) → (((m 63 24) = 0 → Q v1 m) ∧ (¬ ((m 63 24) = 0) → gh_L2 (fun K39 v1 v3 => f_Model_digest_39 Q m K39 v1 v3) v1 0))
theorem b_Model_digest_143 {E : gh_E} {Q : Int → gh_M → Prop} {K143 : Int → Int → Prop} (d : Nat) {m : gh_M} (hK : ∀ (v1 : Int) (v3 : Int), gh_F m → K143 v1 v3 → gh_T E (gh_yModel_digest.cls, prog_14_method_115_code, 4, false, 1) (d + 4) 143 [(0, 2, 63), (1, 1, v1), (3, 0, v3)] [] m (fun r m1 => gh_F m1 ∧ Q r m1)) (v1 : Int) (v3 : Int) (hF : gh_F m) (h : f_Model_digest_143 Q m K143 v1 v3) : gh_T E (gh_yModel_digest.cls, prog_14_method_115_code, 4, false, 1) (d + 4) 143 [(0, 2, 63), (1, 1, v1), (3, 0, v3)] [] m (fun r m1 => gh_F m1 ∧ Q r m1) := by
  have hK143 := hK
  unfold f_Model_digest_143 at h
  refine gh_iload_n gd_Model_digest_143 2 rfl ?_
  refine gh_aload_n gd_Model_digest_144 0 rfl (by decide) ?_
  refine gf_63_68 gd_Model_digest_145 gh_k1438 hF rfl ?_
  obtain ⟨hA, hB⟩ := h
  refine gh_jge (tgt := 169) gd_Model_digest_148 (by decide) (fun c4600 => ?_) (fun c4600 => ?_)
  · have h := hA c4600
    refine gh_lload_n gd_Model_digest_151 1 rfl ?_
    refine gh_aload_n gd_Model_digest_152 0 rfl (by decide) ?_
    refine gf_63_69 gd_Model_digest_153 gh_k1439 hF ?_
    refine gh_iload_n gd_Model_digest_156 2 rfl ?_
    obtain ⟨q4601, h⟩ := h
    obtain ⟨q4602, h⟩ := h
    refine la_109 gd_Model_digest_157 hF q4601 q4602 rfl ?_
    refine gh_i2l gd_Model_digest_158 ?_
    refine cv_Model_hash (d := d + 3) gd_Model_digest_159 gh_k2074 (Nat.le_of_ble_eq_true rfl) (gh_C.pe (e_Model_hash (d + 3) v1 (m 109 v3)) ?_)
    refine gh_name (fun v1' hn => ?_)
    have h := h v1' hn
    refine gh_lstore_n (L2 := [(1, 1, v1'), (0, 2, 63), (3, 0, v3)]) gd_Model_digest_162 (by decide) rfl ?_
    obtain ⟨q4603, h⟩ := h
    refine gh_iinc (L2 := [(3, 0, v3 + 1), (1, 1, v1'), (0, 2, 63)]) gd_Model_digest_163 2 rfl q4603 (by decide) rfl ?_
    refine gh_goto (tgt := 143) gd_Model_digest_166 (by decide) ?_
    refine gh_pick (L2 := [(0, 2, 63), (1, 1, v1'), (3, 0, v3 + 1)]) [2, 1, 0] rfl ?_
    exact hK143 v1' (v3 + 1) hF h
  · have h := hB c4600
    refine gh_lload_n gd_Model_digest_169 1 rfl ?_
    refine gh_aload_n gd_Model_digest_170 0 rfl (by decide) ?_
    refine gh_iconst gd_Model_digest_171 (gh_r0 rfl) ?_
    refine cv_Model_proper (d := d + 3) gd_Model_digest_172 gh_k2087 hF (Nat.le_of_ble_eq_true rfl) (gh_C.pw (s_Model_proper (d + 2) 0 hF h) (fun r4604 h => ?_))
    refine gh_i2l gd_Model_digest_175 ?_
    refine cv_Model_hash (d := d + 3) gd_Model_digest_176 gh_k2074 (Nat.le_of_ble_eq_true rfl) (gh_C.pe (e_Model_hash (d + 3) v1 r4604) ?_)
    refine gh_aload_n gd_Model_digest_179 0 rfl (by decide) ?_
    refine gh_iconst gd_Model_digest_180 (gh_r0 rfl) ?_
    refine cv_Model_proper (d := d + 3) gd_Model_digest_181 gh_k2087 hF (Nat.le_of_ble_eq_true rfl) (gh_C.pw (s_Model_proper (d + 2) 1 hF h) (fun r4606 h => ?_))
    refine gh_i2l gd_Model_digest_184 ?_
    refine cv_Model_hash (d := d + 3) gd_Model_digest_185 gh_k2074 (Nat.le_of_ble_eq_true rfl) (gh_C.pe (e_Model_hash (d + 3) (x_Model_hash v1 r4604) r4606) ?_)
    refine gh_aload_n gd_Model_digest_188 0 rfl (by decide) ?_
    refine gh_iconst gd_Model_digest_189 (gh_r0 rfl) ?_
    refine cv_Model_proper (d := d + 3) gd_Model_digest_190 gh_k2087 hF (Nat.le_of_ble_eq_true rfl) (gh_C.pw (s_Model_proper (d + 2) 2 hF h) (fun r4608 h => ?_))
    refine gh_i2l gd_Model_digest_193 ?_
    refine cv_Model_hash (d := d + 3) gd_Model_digest_194 gh_k2074 (Nat.le_of_ble_eq_true rfl) (gh_C.pe (e_Model_hash (d + 3) (x_Model_hash (x_Model_hash v1 r4604) r4606) r4608) ?_)
    exact gh_ret1 rfl gd_Model_digest_197 ⟨hF, h⟩
theorem b_Model_digest_98 {E : gh_E} {Q : Int → gh_M → Prop} {K98 : Int → Int → gh_M → Prop} (d : Nat) (hK : ∀ (v1 : Int) (v3 : Int) (m : gh_M), gh_F m → K98 v1 v3 m → gh_T E (gh_yModel_digest.cls, prog_14_method_115_code, 4, false, 1) (d + 4) 98 [(0, 2, 63), (1, 1, v1), (3, 0, v3)] [] m (fun r m1 => gh_F m1 ∧ Q r m1)) (v1 : Int) (v3 : Int) (m : gh_M) (hF : gh_F m) (h : f_Model_digest_98 Q K98 v1 v3 m) : gh_T E (gh_yModel_digest.cls, prog_14_method_115_code, 4, false, 1) (d + 4) 98 [(0, 2, 63), (1, 1, v1), (3, 0, v3)] [] m (fun r m1 => gh_F m1 ∧ Q r m1) := by
  have hK98 := hK
  unfold f_Model_digest_98 at h
  refine gh_iload_n gd_Model_digest_98 2 rfl ?_
  refine gh_aload_n gd_Model_digest_99 0 rfl (by decide) ?_
  refine gf_63_50 gd_Model_digest_100 gh_k1420 hF rfl ?_
  obtain ⟨hA, hB⟩ := h
  refine gh_jgt (tgt := 141) gd_Model_digest_103 (by decide) (fun c4592 => ?_) (fun c4592 => ?_)
  · have h := hA c4592
    refine gh_lload_n gd_Model_digest_106 1 rfl ?_
    refine gh_aload_n gd_Model_digest_107 0 rfl (by decide) ?_
    refine gh_iload_n gd_Model_digest_108 2 rfl ?_
    refine cv_Model_next2 (d := d + 3) gd_Model_digest_109 gh_k2084 hF (Nat.le_of_ble_eq_true rfl) (gh_C.mono (s_Model_next2 d v3 hF h) (fun r4593 m4594 hq => ?_))
    obtain ⟨hF, h⟩ := hq
    refine gh_i2l gd_Model_digest_112 ?_
    refine cv_Model_hash (d := d + 3) gd_Model_digest_113 gh_k2074 (Nat.le_of_ble_eq_true rfl) (gh_C.pe (e_Model_hash (d + 3) v1 r4593) ?_)
    refine gh_aload_n gd_Model_digest_116 0 rfl (by decide) ?_
    refine gh_iload_n gd_Model_digest_117 2 rfl ?_
    refine cv_Model_items (d := d + 3) gd_Model_digest_118 gh_k2085 hF (Nat.le_of_ble_eq_true rfl) (gh_C.mono (s_Model_items d v3 hF h) (fun r4595 m4596 hq => ?_))
    obtain ⟨hF, h⟩ := hq
    refine gh_i2l gd_Model_digest_121 ?_
    refine cv_Model_hash (d := d + 3) gd_Model_digest_122 gh_k2074 (Nat.le_of_ble_eq_true rfl) (gh_C.pe (e_Model_hash (d + 3) (x_Model_hash v1 r4593) r4595) ?_)
    refine gh_aload_n gd_Model_digest_125 0 rfl (by decide) ?_
    refine gh_iload_n gd_Model_digest_126 2 rfl ?_
    refine cv_Model_end (d := d + 3) gd_Model_digest_127 gh_k2086 hF (Nat.le_of_ble_eq_true rfl) (gh_C.mono (s_Model_end d v3 hF h) (fun r4597 m4598 hq => ?_))
    obtain ⟨hF, h⟩ := hq
    refine gh_i2l gd_Model_digest_130 ?_
    refine cv_Model_hash (d := d + 3) gd_Model_digest_131 gh_k2074 (Nat.le_of_ble_eq_true rfl) (gh_C.pe (e_Model_hash (d + 3) (x_Model_hash (x_Model_hash v1 r4593) r4595) r4597) ?_)
    refine gh_name (fun v1' hn => ?_)
    have h := h v1' hn
    refine gh_lstore_n (L2 := [(1, 1, v1'), (0, 2, 63), (3, 0, v3)]) gd_Model_digest_134 (by decide) rfl ?_
    obtain ⟨q4599, h⟩ := h
    refine gh_iinc (L2 := [(3, 0, v3 + 1), (1, 1, v1'), (0, 2, 63)]) gd_Model_digest_135 2 rfl q4599 (by decide) rfl ?_
    refine gh_goto (tgt := 98) gd_Model_digest_138 (by decide) ?_
    refine gh_pick (L2 := [(0, 2, 63), (1, 1, v1'), (3, 0, v3 + 1)]) [2, 1, 0] rfl ?_
    exact hK98 v1' (v3 + 1) m4598 hF h
  · have h := hB c4592
    refine gh_iconst gd_Model_digest_141 (gh_r0 rfl) ?_
    refine gh_istore_n (L2 := [(3, 0, 0), (0, 2, 63), (1, 1, v1)]) gd_Model_digest_142 (by decide) rfl ?_
    refine gh_pick (L2 := [(0, 2, 63), (1, 1, v1), (3, 0, 0)]) [1, 2, 0] rfl ?_
    exact gh_L2_sound (T := fun v1 v3 => gh_T E (gh_yModel_digest.cls, prog_14_method_115_code, 4, false, 1) (d + 4) 143 [(0, 2, 63), (1, 1, v1), (3, 0, v3)] [] m (fun r m1 => gh_F m1 ∧ Q r m1)) (fun _ _ => gh_F m) (fun K143 v1 v3 hK hF h => b_Model_digest_143 d hK v1 v3 hF h) v1 0 hF h
theorem b_Model_digest_70 {E : gh_E} {Q : Int → gh_M → Prop} {K70 : Int → Int → Prop} (d : Nat) {m : gh_M} (hK : ∀ (v1 : Int) (v3 : Int), gh_F m → K70 v1 v3 → gh_T E (gh_yModel_digest.cls, prog_14_method_115_code, 4, false, 1) (d + 4) 70 [(0, 2, 63), (1, 1, v1), (3, 0, v3)] [] m (fun r m1 => gh_F m1 ∧ Q r m1)) (v1 : Int) (v3 : Int) (hF : gh_F m) (h : f_Model_digest_70 Q m K70 v1 v3) : gh_T E (gh_yModel_digest.cls, prog_14_method_115_code, 4, false, 1) (d + 4) 70 [(0, 2, 63), (1, 1, v1), (3, 0, v3)] [] m (fun r m1 => gh_F m1 ∧ Q r m1) := by
  have hK70 := hK
  unfold f_Model_digest_70 at h
  refine gh_iload_n gd_Model_digest_70 2 rfl ?_
  refine gh_aload_n gd_Model_digest_71 0 rfl (by decide) ?_
  refine gf_63_50 gd_Model_digest_72 gh_k1420 hF rfl ?_
  obtain ⟨hA, hB⟩ := h
  refine gh_jge (tgt := 96) gd_Model_digest_75 (by decide) (fun c4588 => ?_) (fun c4588 => ?_)
  · have h := hA c4588
    refine gh_lload_n gd_Model_digest_78 1 rfl ?_
    refine gh_aload_n gd_Model_digest_79 0 rfl (by decide) ?_
    refine gf_63_51 gd_Model_digest_80 gh_k1421 hF ?_
    refine gh_iload_n gd_Model_digest_83 2 rfl ?_
    obtain ⟨q4589, h⟩ := h
    obtain ⟨q4590, h⟩ := h
    refine la_96 gd_Model_digest_84 hF q4589 q4590 rfl ?_
    refine gh_i2l gd_Model_digest_85 ?_
    refine cv_Model_hash (d := d + 3) gd_Model_digest_86 gh_k2074 (Nat.le_of_ble_eq_true rfl) (gh_C.pe (e_Model_hash (d + 3) v1 (m 96 v3)) ?_)
    refine gh_name (fun v1' hn => ?_)
    have h := h v1' hn
    refine gh_lstore_n (L2 := [(1, 1, v1'), (0, 2, 63), (3, 0, v3)]) gd_Model_digest_89 (by decide) rfl ?_
    obtain ⟨q4591, h⟩ := h
    refine gh_iinc (L2 := [(3, 0, v3 + 1), (1, 1, v1'), (0, 2, 63)]) gd_Model_digest_90 2 rfl q4591 (by decide) rfl ?_
    refine gh_goto (tgt := 70) gd_Model_digest_93 (by decide) ?_
    refine gh_pick (L2 := [(0, 2, 63), (1, 1, v1'), (3, 0, v3 + 1)]) [2, 1, 0] rfl ?_
    exact hK70 v1' (v3 + 1) hF h
  · have h := hB c4588
    refine gh_iconst gd_Model_digest_96 (gh_r0 rfl) ?_
    refine gh_istore_n (L2 := [(3, 0, 0), (0, 2, 63), (1, 1, v1)]) gd_Model_digest_97 (by decide) rfl ?_
    refine gh_pick (L2 := [(0, 2, 63), (1, 1, v1), (3, 0, 0)]) [1, 2, 0] rfl ?_
    exact gh_M2_sound (T := fun v1 v3 m => gh_T E (gh_yModel_digest.cls, prog_14_method_115_code, 4, false, 1) (d + 4) 98 [(0, 2, 63), (1, 1, v1), (3, 0, v3)] [] m (fun r m1 => gh_F m1 ∧ Q r m1)) (fun _ _ m => gh_F m) (fun K98 v1 v3 m hK hF h => b_Model_digest_98 d hK v1 v3 m hF h) v1 0 m hF h
theorem b_Model_digest_39 {E : gh_E} {Q : Int → gh_M → Prop} {K39 : Int → Int → Prop} (d : Nat) {m : gh_M} (hK : ∀ (v1 : Int) (v3 : Int), gh_F m → K39 v1 v3 → gh_T E (gh_yModel_digest.cls, prog_14_method_115_code, 4, false, 1) (d + 4) 39 [(0, 2, 63), (1, 1, v1), (3, 0, v3)] [] m (fun r m1 => gh_F m1 ∧ Q r m1)) (v1 : Int) (v3 : Int) (hF : gh_F m) (h : f_Model_digest_39 Q m K39 v1 v3) : gh_T E (gh_yModel_digest.cls, prog_14_method_115_code, 4, false, 1) (d + 4) 39 [(0, 2, 63), (1, 1, v1), (3, 0, v3)] [] m (fun r m1 => gh_F m1 ∧ Q r m1) := by
  have hK39 := hK
  unfold f_Model_digest_39 at h
  refine gh_iload_n gd_Model_digest_39 2 rfl ?_
  refine gh_bipush gd_Model_digest_40 (by decide) (gh_r0 rfl) ?_
  obtain ⟨hA, hB⟩ := h
  refine gh_jge (tgt := 62) gd_Model_digest_42 (by decide) (fun c4582 => ?_) (fun c4582 => ?_)
  · have h := hA c4582
    refine gh_lload_n gd_Model_digest_45 1 rfl ?_
    refine gh_aload_n gd_Model_digest_46 0 rfl (by decide) ?_
    refine gh_iload_n gd_Model_digest_47 2 rfl ?_
    refine cv_Model_sum (d := d + 3) gd_Model_digest_48 gh_k2078 hF (Nat.le_of_ble_eq_true rfl) (gh_C.pw (s_Model_sum d v3 hF h) (fun r4583 h => ?_))
    refine gh_i2l gd_Model_digest_51 ?_
    refine cv_Model_hash (d := d + 3) gd_Model_digest_52 gh_k2074 (Nat.le_of_ble_eq_true rfl) (gh_C.pe (e_Model_hash (d + 3) v1 r4583) ?_)
    refine gh_name (fun v1' hn => ?_)
    have h := h v1' hn
    refine gh_lstore_n (L2 := [(1, 1, v1'), (0, 2, 63), (3, 0, v3)]) gd_Model_digest_55 (by decide) rfl ?_
    obtain ⟨q4585, h⟩ := h
    refine gh_iinc (L2 := [(3, 0, v3 + 1), (1, 1, v1'), (0, 2, 63)]) gd_Model_digest_56 2 rfl q4585 (by decide) rfl ?_
    refine gh_goto (tgt := 39) gd_Model_digest_59 (by decide) ?_
    refine gh_pick (L2 := [(0, 2, 63), (1, 1, v1'), (3, 0, v3 + 1)]) [2, 1, 0] rfl ?_
    exact hK39 v1' (v3 + 1) hF h
  · have h := hB c4582
    refine gh_aload_n gd_Model_digest_62 0 rfl (by decide) ?_
    refine gh_lload_n gd_Model_digest_63 1 rfl ?_
    refine cv_Model_hashNames (d := d + 3) gd_Model_digest_64 gh_k2079 hF (Nat.le_of_ble_eq_true rfl) (gh_C.pw (s_Model_hashNames d v1 hF h) (fun r4586 h => ?_))
    refine gh_lstore_n (L2 := [(1, 1, r4586), (0, 2, 63), (3, 0, v3)]) gd_Model_digest_67 (by decide) rfl ?_
    refine gh_iconst gd_Model_digest_68 (gh_r0 rfl) ?_
    refine gh_istore_n (L2 := [(3, 0, 0), (1, 1, r4586), (0, 2, 63)]) gd_Model_digest_69 (by decide) rfl ?_
    refine gh_pick (L2 := [(0, 2, 63), (1, 1, r4586), (3, 0, 0)]) [2, 1, 0] rfl ?_
    exact gh_L2_sound (T := fun v1 v3 => gh_T E (gh_yModel_digest.cls, prog_14_method_115_code, 4, false, 1) (d + 4) 70 [(0, 2, 63), (1, 1, v1), (3, 0, v3)] [] m (fun r m1 => gh_F m1 ∧ Q r m1)) (fun _ _ => gh_F m) (fun K70 v1 v3 hK hF h => b_Model_digest_70 d hK v1 v3 hF h) r4586 0 hF h
theorem s_Model_digest {E : gh_E} {m : gh_M} {Q : Int → gh_M → Prop} (d : Nat) (hF : gh_F m) (h : w_Model_digest m Q) : gh_C E gh_yModel_digest prog_14_method_115_code 4 (some .long) 1 (d + 4) [(2, 63)] m (fun r m1 => gh_F m1 ∧ Q r m1) := by
  refine gh_enter2 (L := [(0, 2, 63)]) (by decide +kernel) gh_rt1 (Nat.le_of_ble_eq_true rfl) rfl rfl ?_
  unfold w_Model_digest at h
  refine gh_ldc2 (n := 17) gd_Model_digest_0 gh_k2073 (by decide) (gh_r1 rfl) ?_
  refine gh_aload_n gd_Model_digest_3 0 rfl (by decide) ?_
  refine gf_63_1 gd_Model_digest_4 gh_k1371 hF rfl ?_
  refine gh_i2l gd_Model_digest_7 ?_
  refine cv_Model_hash (d := d + 3) gd_Model_digest_8 gh_k2074 (Nat.le_of_ble_eq_true rfl) (gh_C.pe (e_Model_hash (d + 3) 17 (m 63 1)) ?_)
  refine gh_aload_n gd_Model_digest_11 0 rfl (by decide) ?_
  refine gf_63_2 gd_Model_digest_12 gh_k1372 hF rfl ?_
  refine gh_i2l gd_Model_digest_15 ?_
  refine cv_Model_hash (d := d + 3) gd_Model_digest_16 gh_k2074 (Nat.le_of_ble_eq_true rfl) (gh_C.pe (e_Model_hash (d + 3) (x_Model_hash 17 (m 63 1)) (m 63 2)) ?_)
  refine gh_aload_n gd_Model_digest_19 0 rfl (by decide) ?_
  refine gf_63_3 gd_Model_digest_20 gh_k1373 hF rfl ?_
  refine gh_i2l gd_Model_digest_23 ?_
  refine cv_Model_hash (d := d + 3) gd_Model_digest_24 gh_k2074 (Nat.le_of_ble_eq_true rfl) (gh_C.pe (e_Model_hash (d + 3) (x_Model_hash (x_Model_hash 17 (m 63 1)) (m 63 2)) (m 63 3)) ?_)
  refine gh_name (fun v1 hn => ?_)
  have h := h v1 hn
  refine gh_lstore_n (L2 := [(1, 1, v1), (0, 2, 63)]) gd_Model_digest_27 (by decide) rfl ?_
  refine gh_aload_n gd_Model_digest_28 1 rfl (by decide) ?_
  refine gf_63_24 gd_Model_digest_29 gh_k1394 hF rfl ?_
  obtain ⟨hA, hB⟩ := h
  refine gh_zne (tgt := 37) gd_Model_digest_32 (by decide) (fun c4581 => ?_) (fun c4581 => ?_)
  · have h := hA c4581
    refine gh_lload_n gd_Model_digest_35 0 rfl ?_
    exact gh_ret1 rfl gd_Model_digest_36 ⟨hF, h⟩
  · have h := hB c4581
    refine gh_iconst gd_Model_digest_37 (gh_r0 rfl) ?_
    refine gh_istore_n (L2 := [(3, 0, 0), (1, 1, v1), (0, 2, 63)]) gd_Model_digest_38 (by decide) rfl ?_
    refine gh_pick (L2 := [(0, 2, 63), (1, 1, v1), (3, 0, 0)]) [2, 1, 0] rfl ?_
    exact gh_L2_sound (T := fun v1 v3 => gh_T E (gh_yModel_digest.cls, prog_14_method_115_code, 4, false, 1) (d + 4) 39 [(0, 2, 63), (1, 1, v1), (3, 0, v3)] [] m (fun r m1 => gh_F m1 ∧ Q r m1)) (fun _ _ => gh_F m) (fun K39 v1 v3 hK hF h => b_Model_digest_39 d hK v1 v3 hF h) v1 0 hF h
