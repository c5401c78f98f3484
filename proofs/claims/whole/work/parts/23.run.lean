def f_Model_rowMakes_50 (v1 : Int) (v2 : Int) (v3 : Int) (v4 : Int) (v5 : Int) (v6 : Int) (v8 : Int) (K38 : Int → Int → Prop) (m : gh_M) (K50 : Int → Int → Prop) (v7 : Int) (v9 : Int) : Prop := ∃ J152 : Int → Prop, (∀ (v7' : Int), J152 v7' → gh_i (v8 + 1) ∧ K38 v7' (v8 + 1)) ∧ ((((v9 ≤ v3) ∧ ((gh_iand_f (gh_ishr_f v4 v8) 1) = 1)) → (((v6 ≤ 0) → (gh_i ((-1) - v6) ∧ gh_i (81 * ((-1) - v6)) ∧ gh_i (9 * v8) ∧ gh_i ((81 * ((-1) - v6)) + (9 * v8)) ∧ gh_i (((81 * ((-1) - v6)) + (9 * v8)) + v9) ∧ 0 ≤ ((81 * ((-1) - v6)) + (9 * v8)) + v9 ∧ (((81 * ((-1) - v6)) + (9 * v8)) + v9) < 648)) ∧ (¬ (v6 ≤ 0) → (gh_i (v8 + 1) ∧ ((v9 = (v8 + 1)) → (0 ≤ v8 ∧ v8 < 8))))) ∧ ∀ v10 : Int, v10 = (if v6 ≤ 0 then (m 104 (((81 * ((-1) - v6)) + (9 * v8)) + v9)) else (if v9 = (v8 + 1) then (if (gh_iand_f (gh_ishr_f v6 (m 96 v8)) 1) = 1 then 1 else 0) else 0)) → ∀ v7' : Int, v7' = gh_ior_f v7 (if v10 = 0 then 0 else (gh_ishl_f 1 v9)) → gh_i (v9 + 1) ∧ K50 v7' (v9 + 1)) ∧ (¬ ((v9 ≤ v3) ∧ ((gh_iand_f (gh_ishr_f v4 v8) 1) = 1)) → J152 v7))
def f_Model_rowMakes_38 (v1 : Int) (v2 : Int) (v3 : Int) (v4 : Int) (v5 : Int) (v6 : Int) (K8 : Int → Int → Prop) (m : gh_M) (K38 : Int → Int → Prop) (v7 : Int) (v8 : Int) : Prop := ((v8 < v3 → gh_i (v8 + 1) ∧ ∀ v9 : Int, v9 = v8 + 1 → gh_L2 (fun K50 v7 v9 => f_Model_rowMakes_50 v1 v2 v3 v4 v5 v6 v8 K38 m K50 v7 v9) v7 v9) ∧ (¬ (v8 < v3) → gh_i (v5 + 1) ∧ K8 v7 (v5 + 1)))
def f_Model_rowMakes_8 (v1 : Int) (v2 : Int) (v3 : Int) (Q : Int → Prop) (m : gh_M) (K8 : Int → Int → Prop) (v4 : Int) (v5 : Int) : Prop := 0 ≤ v1 ∧ v1 < 320 ∧ ((v5 < (m 89 v1) → gh_i (4 * v1) ∧ gh_i ((4 * v1) + v5) ∧ 0 ≤ (4 * v1) + v5 ∧ ((4 * v1) + v5) < 1280 ∧ ∀ v6 : Int, v6 = m 90 ((4 * v1) + v5) → gh_L2 (fun K38 v7 v8 => f_Model_rowMakes_38 v1 v2 v3 v4 v5 v6 K8 m K38 v7 v8) 0 v2) ∧ (¬ (v5 < (m 89 v1)) → Q (if ((gh_iand_f (gh_ishr_f v4 v3) 1) = 1) then (1:Int) else 0)))
def w_Model_rowMakes (v1 : Int) (v2 : Int) (v3 : Int) (m : gh_M) (Q : Int → Prop) : Prop := ∀ v4 : Int, v4 = gh_ishl_f 1 v2 → gh_L2 (fun K8 v4 v5 => f_Model_rowMakes_8 v1 v2 v3 Q m K8 v4 v5) v4 0
theorem b_Model_rowMakes_50 {E : gh_E} {v1 : Int} {v2 : Int} {v3 : Int} {v4 : Int} {v5 : Int} {v6 : Int} {v8 : Int} {K38 : Int → Int → Prop} {Q : Int → Prop} {K50 : Int → Int → Prop} (d : Nat) {m : gh_M} (hK38 : ∀ (v7 : Int) (v8 : Int), gh_F m → K38 v7 v8 → gh_T E (gh_yModel_rowMakes.cls, prog_14_method_65_code, 11, false, 8) (d + 0) 38 [(0, 2, 63), (1, 0, v1), (2, 0, v2), (3, 0, v3), (4, 0, v4), (5, 0, v5), (6, 0, v6), (7, 0, v7), (8, 0, v8)] [] m (fun r m1 => m1 = m ∧ Q r)) (hK : ∀ (v7 : Int) (v9 : Int), gh_F m → K50 v7 v9 → gh_T E (gh_yModel_rowMakes.cls, prog_14_method_65_code, 11, false, 8) (d + 0) 50 [(0, 2, 63), (1, 0, v1), (2, 0, v2), (3, 0, v3), (4, 0, v4), (5, 0, v5), (6, 0, v6), (7, 0, v7), (8, 0, v8), (9, 0, v9)] [] m (fun r m1 => m1 = m ∧ Q r)) (v7 : Int) (v9 : Int) (hF : gh_F m) (h : f_Model_rowMakes_50 v1 v2 v3 v4 v5 v6 v8 K38 m K50 v7 v9) : gh_T E (gh_yModel_rowMakes.cls, prog_14_method_65_code, 11, false, 8) (d + 0) 50 [(0, 2, 63), (1, 0, v1), (2, 0, v2), (3, 0, v3), (4, 0, v4), (5, 0, v5), (6, 0, v6), (7, 0, v7), (8, 0, v8), (9, 0, v9)] [] m (fun r m1 => m1 = m ∧ Q r) := by
  have hK50 := hK
  unfold f_Model_rowMakes_50 at h
  refine gh_iload gd_Model_rowMakes_50 9 rfl ?_
  refine gh_iload_n gd_Model_rowMakes_52 3 rfl ?_
  obtain ⟨J152, hJ152, h⟩ := h
  have hJ152 : ∀ (v7' : Int), gh_F m → J152 v7' → gh_T E (gh_yModel_rowMakes.cls, prog_14_method_65_code, 11, false, 8) (d + 0) 152 [(0, 2, 63), (1, 0, v1), (2, 0, v2), (3, 0, v3), (4, 0, v4), (5, 0, v5), (6, 0, v6), (7, 0, v7'), (8, 0, v8)] [] m (fun r m1 => m1 = m ∧ Q r) := by
    intro v7' hF hj
    have h := hJ152 v7' hj
    obtain ⟨q3524, h⟩ := h
    refine gh_iinc (L2 := [(8, 0, v8 + 1), (0, 2, 63), (1, 0, v1), (2, 0, v2), (3, 0, v3), (4, 0, v4), (5, 0, v5), (6, 0, v6), (7, 0, v7')]) gd_Model_rowMakes_152 8 rfl q3524 (by decide) rfl ?_
    refine gh_goto (tgt := 38) gd_Model_rowMakes_155 (by decide) ?_
    refine gh_pick (L2 := [(0, 2, 63), (1, 0, v1), (2, 0, v2), (3, 0, v3), (4, 0, v4), (5, 0, v5), (6, 0, v6), (7, 0, v7'), (8, 0, v8 + 1)]) [1, 2, 3, 4, 5, 6, 7, 8, 0] rfl ?_
    exact hK38 v7' (v8 + 1) hF h
  obtain ⟨hA, hB⟩ := h
  have k3525 : ((v9 ≤ v3) ∧ ((gh_iand_f (gh_ishr_f v4 v8) 1) = 1)) → gh_T E (gh_yModel_rowMakes.cls, prog_14_method_65_code, 11, false, 8) (d + 0) 67 [(0, 2, 63), (1, 0, v1), (2, 0, v2), (3, 0, v3), (4, 0, v4), (5, 0, v5), (6, 0, v6), (7, 0, v7), (8, 0, v8), (9, 0, v9)] [] m (fun r m1 => m1 = m ∧ Q r) := by
    intro c
    have h := hA c
    refine gh_iload gd_Model_rowMakes_67 6 rfl ?_
    obtain ⟨hk, h⟩ := h
    have k3537 : ∀ x3538 : Int, x3538 = (if v6 ≤ 0 then (m 104 (((81 * ((-1) - v6)) + (9 * v8)) + v9)) else (if v9 = (v8 + 1) then (if (gh_iand_f (gh_ishr_f v6 (m 96 v8)) 1) = 1 then 1 else 0) else 0)) → gh_T E (gh_yModel_rowMakes.cls, prog_14_method_65_code, 11, false, 8) (d + 0) 126 [(0, 2, 63), (1, 0, v1), (2, 0, v2), (3, 0, v3), (4, 0, v4), (5, 0, v5), (6, 0, v6), (7, 0, v7), (8, 0, v8), (9, 0, v9)] [(0, x3538)] m (fun r m1 => m1 = m ∧ Q r) := by
      rintro _ rfl
      refine gh_name (fun v10 hn => ?_)
      have h := h v10 hn
      refine gh_istore (L2 := [(10, 0, v10), (0, 2, 63), (1, 0, v1), (2, 0, v2), (3, 0, v3), (4, 0, v4), (5, 0, v5), (6, 0, v6), (7, 0, v7), (8, 0, v8), (9, 0, v9)]) gd_Model_rowMakes_126 (by decide) rfl ?_
      refine gh_iload gd_Model_rowMakes_128 8 rfl ?_
      refine gh_iload gd_Model_rowMakes_130 0 rfl ?_
      have k3539 : ∀ x3540 : Int, x3540 = (if v10 = 0 then 0 else (gh_ishl_f 1 v9)) → gh_T E (gh_yModel_rowMakes.cls, prog_14_method_65_code, 11, false, 8) (d + 0) 143 [(10, 0, v10), (0, 2, 63), (1, 0, v1), (2, 0, v2), (3, 0, v3), (4, 0, v4), (5, 0, v5), (6, 0, v6), (7, 0, v7), (8, 0, v8), (9, 0, v9)] [(0, x3540), (0, v7)] m (fun r m1 => m1 = m ∧ Q r) := by
        rintro _ rfl
        refine gh_ior gd_Model_rowMakes_143 ?_
        refine gh_name (fun v7' hn => ?_)
        have h := h v7' hn
        refine gh_istore (L2 := [(7, 0, v7'), (10, 0, v10), (0, 2, 63), (1, 0, v1), (2, 0, v2), (3, 0, v3), (4, 0, v4), (5, 0, v5), (6, 0, v6), (8, 0, v8), (9, 0, v9)]) gd_Model_rowMakes_144 (by decide) rfl ?_
        obtain ⟨q3541, h⟩ := h
        refine gh_iinc (L2 := [(9, 0, v9 + 1), (7, 0, v7'), (10, 0, v10), (0, 2, 63), (1, 0, v1), (2, 0, v2), (3, 0, v3), (4, 0, v4), (5, 0, v5), (6, 0, v6), (8, 0, v8)]) gd_Model_rowMakes_146 10 rfl q3541 (by decide) rfl ?_
        refine gh_goto (tgt := 50) gd_Model_rowMakes_149 (by decide) ?_
        refine gh_pick (L2 := [(0, 2, 63), (1, 0, v1), (2, 0, v2), (3, 0, v3), (4, 0, v4), (5, 0, v5), (6, 0, v6), (7, 0, v7'), (8, 0, v8), (9, 0, v9 + 1)]) [3, 4, 5, 6, 7, 8, 9, 1, 10, 0] rfl ?_
        exact hK50 v7' (v9 + 1) hF h
      refine gh_zeq (tgt := 142) gd_Model_rowMakes_132 (by decide) (fun c3542 => ?_) (fun c3542 => ?_)
      · have hz : True := trivial
        refine gh_iconst gd_Model_rowMakes_142 (gh_r0 rfl) ?_
        exact k3539 _ (by rw [if_pos c3542])
      · have hz : True := trivial
        refine gh_iconst gd_Model_rowMakes_135 (gh_r0 rfl) ?_
        refine gh_iload gd_Model_rowMakes_136 10 rfl ?_
        refine gh_ishl gd_Model_rowMakes_138 ?_
        refine gh_goto (tgt := 143) gd_Model_rowMakes_139 (by decide) ?_
        exact k3539 _ (by rw [if_neg c3542])
    refine gh_zle (tgt := 105) gd_Model_rowMakes_69 (by decide) (fun c3543 => ?_) (fun c3543 => ?_)
    · have hz : True := trivial
      have hk := hk.1 c3543
      refine gh_aload_n gd_Model_rowMakes_105 0 rfl (by decide) ?_
      refine gf_63_60 gd_Model_rowMakes_106 gh_k1427 hF ?_
      refine gh_bipush gd_Model_rowMakes_109 (by decide) (gh_r0 rfl) ?_
      refine gh_iconst gd_Model_rowMakes_111 (gh_r0 rfl) ?_
      refine gh_iload gd_Model_rowMakes_112 6 rfl ?_
      obtain ⟨q3527, hk⟩ := hk
      refine gh_isub gd_Model_rowMakes_114 q3527 ?_
      obtain ⟨q3528, hk⟩ := hk
      refine gh_imul gd_Model_rowMakes_115 q3528 ?_
      refine gh_bipush gd_Model_rowMakes_116 (by decide) (gh_r0 rfl) ?_
      refine gh_iload gd_Model_rowMakes_118 8 rfl ?_
      obtain ⟨q3529, hk⟩ := hk
      refine gh_imul gd_Model_rowMakes_120 q3529 ?_
      obtain ⟨q3530, hk⟩ := hk
      refine gh_iadd gd_Model_rowMakes_121 q3530 ?_
      refine gh_iload gd_Model_rowMakes_122 9 rfl ?_
      obtain ⟨q3531, hk⟩ := hk
      refine gh_iadd gd_Model_rowMakes_124 q3531 ?_
      obtain ⟨q3532, hk⟩ := hk
      have q3533 := hk
      refine la_104 gd_Model_rowMakes_125 hF q3532 q3533 rfl ?_
      exact k3537 _ (by rw [if_pos c3543])
    · have hz : True := trivial
      have hk := hk.2 c3543
      refine gh_iload gd_Model_rowMakes_72 9 rfl ?_
      refine gh_iload gd_Model_rowMakes_74 8 rfl ?_
      refine gh_iconst gd_Model_rowMakes_76 (gh_r0 rfl) ?_
      obtain ⟨q3534, hk⟩ := hk
      refine gh_iadd gd_Model_rowMakes_77 q3534 ?_
      refine gh_jne (tgt := 101) gd_Model_rowMakes_78 (by decide) (fun c3544 => ?_) (fun c3544 => ?_)
      · have hz : True := trivial
        have hk := hk c3544
        refine gh_iload gd_Model_rowMakes_81 6 rfl ?_
        refine gh_aload_n gd_Model_rowMakes_83 0 rfl (by decide) ?_
        refine gf_63_51 gd_Model_rowMakes_84 gh_k1418 hF ?_
        refine gh_iload gd_Model_rowMakes_87 8 rfl ?_
        obtain ⟨q3535, hk⟩ := hk
        have q3536 := hk
        refine la_96 gd_Model_rowMakes_89 hF q3535 q3536 rfl ?_
        refine gh_ishr gd_Model_rowMakes_90 ?_
        refine gh_iconst gd_Model_rowMakes_91 (gh_r0 rfl) ?_
        refine gh_iand gd_Model_rowMakes_92 ?_
        refine gh_iconst gd_Model_rowMakes_93 (gh_r0 rfl) ?_
        refine gh_jne (tgt := 101) gd_Model_rowMakes_94 (by decide) (fun c3545 => ?_) (fun c3545 => ?_)
        · have hz : True := trivial
          refine gh_iconst gd_Model_rowMakes_97 (gh_r0 rfl) ?_
          refine gh_goto (tgt := 126) gd_Model_rowMakes_98 (by decide) ?_
          exact k3537 _ (by rw [if_neg c3543, if_pos c3544, if_pos c3545])
        · have hz : True := trivial
          refine gh_iconst gd_Model_rowMakes_101 (gh_r0 rfl) ?_
          refine gh_goto (tgt := 126) gd_Model_rowMakes_102 (by decide) ?_
          exact k3537 _ (by rw [if_neg c3543, if_pos c3544, if_neg c3545])
      · have hz : True := trivial
        refine gh_iconst gd_Model_rowMakes_101 (gh_r0 rfl) ?_
        refine gh_goto (tgt := 126) gd_Model_rowMakes_102 (by decide) ?_
        exact k3537 _ (by rw [if_neg c3543, if_neg c3544])
  have k3526 : ¬ ((v9 ≤ v3) ∧ ((gh_iand_f (gh_ishr_f v4 v8) 1) = 1)) → gh_T E (gh_yModel_rowMakes.cls, prog_14_method_65_code, 11, false, 8) (d + 0) 152 [(0, 2, 63), (1, 0, v1), (2, 0, v2), (3, 0, v3), (4, 0, v4), (5, 0, v5), (6, 0, v6), (7, 0, v7), (8, 0, v8), (9, 0, v9)] [] m (fun r m1 => m1 = m ∧ Q r) := by
    intro c
    have h := hB c
    refine gh_pick (L2 := [(0, 2, 63), (1, 0, v1), (2, 0, v2), (3, 0, v3), (4, 0, v4), (5, 0, v5), (6, 0, v6), (7, 0, v7), (8, 0, v8)]) [0, 1, 2, 3, 4, 5, 6, 7, 8] rfl ?_
    exact hJ152 v7 hF h
  refine gh_jgt (tgt := 152) gd_Model_rowMakes_53 (by decide) (fun c3546 => ?_) (fun c3546 => ?_)
  · have hz : True := trivial
    refine gh_iload gd_Model_rowMakes_56 4 rfl ?_
    refine gh_iload gd_Model_rowMakes_58 8 rfl ?_
    refine gh_ishr gd_Model_rowMakes_60 ?_
    refine gh_iconst gd_Model_rowMakes_61 (gh_r0 rfl) ?_
    refine gh_iand gd_Model_rowMakes_62 ?_
    refine gh_iconst gd_Model_rowMakes_63 (gh_r0 rfl) ?_
    refine gh_jne (tgt := 152) gd_Model_rowMakes_64 (by decide) (fun c3547 => ?_) (fun c3547 => ?_)
    · have hz : True := trivial
      exact k3525 ⟨c3546, c3547⟩
    · have hz : True := trivial
      exact k3526 (fun z => c3547 z.2)
  · have hz : True := trivial
    exact k3526 (fun z => c3546 z.1)
theorem b_Model_rowMakes_38 {E : gh_E} {v1 : Int} {v2 : Int} {v3 : Int} {v4 : Int} {v5 : Int} {v6 : Int} {K8 : Int → Int → Prop} {Q : Int → Prop} {K38 : Int → Int → Prop} (d : Nat) {m : gh_M} (hK8 : ∀ (v4 : Int) (v5 : Int), gh_F m → K8 v4 v5 → gh_T E (gh_yModel_rowMakes.cls, prog_14_method_65_code, 11, false, 8) (d + 0) 8 [(0, 2, 63), (1, 0, v1), (2, 0, v2), (3, 0, v3), (4, 0, v4), (5, 0, v5)] [] m (fun r m1 => m1 = m ∧ Q r)) (hK : ∀ (v7 : Int) (v8 : Int), gh_F m → K38 v7 v8 → gh_T E (gh_yModel_rowMakes.cls, prog_14_method_65_code, 11, false, 8) (d + 0) 38 [(0, 2, 63), (1, 0, v1), (2, 0, v2), (3, 0, v3), (4, 0, v4), (5, 0, v5), (6, 0, v6), (7, 0, v7), (8, 0, v8)] [] m (fun r m1 => m1 = m ∧ Q r)) (v7 : Int) (v8 : Int) (hF : gh_F m) (h : f_Model_rowMakes_38 v1 v2 v3 v4 v5 v6 K8 m K38 v7 v8) : gh_T E (gh_yModel_rowMakes.cls, prog_14_method_65_code, 11, false, 8) (d + 0) 38 [(0, 2, 63), (1, 0, v1), (2, 0, v2), (3, 0, v3), (4, 0, v4), (5, 0, v5), (6, 0, v6), (7, 0, v7), (8, 0, v8)] [] m (fun r m1 => m1 = m ∧ Q r) := by
  have hK38 := hK
  unfold f_Model_rowMakes_38 at h
  refine gh_iload gd_Model_rowMakes_38 8 rfl ?_
  refine gh_iload_n gd_Model_rowMakes_40 3 rfl ?_
  obtain ⟨hA, hB⟩ := h
  refine gh_jge (tgt := 158) gd_Model_rowMakes_41 (by decide) (fun c3522 => ?_) (fun c3522 => ?_)
  · have h := hA c3522
    refine gh_iload gd_Model_rowMakes_44 8 rfl ?_
    refine gh_iconst gd_Model_rowMakes_46 (gh_r0 rfl) ?_
    obtain ⟨q3523, h⟩ := h
    refine gh_iadd gd_Model_rowMakes_47 q3523 ?_
    refine gh_name (fun v9 hn => ?_)
    have h := h v9 hn
    refine gh_istore (L2 := [(9, 0, v9), (0, 2, 63), (1, 0, v1), (2, 0, v2), (3, 0, v3), (4, 0, v4), (5, 0, v5), (6, 0, v6), (7, 0, v7), (8, 0, v8)]) gd_Model_rowMakes_48 (by decide) rfl ?_
    refine gh_pick (L2 := [(0, 2, 63), (1, 0, v1), (2, 0, v2), (3, 0, v3), (4, 0, v4), (5, 0, v5), (6, 0, v6), (7, 0, v7), (8, 0, v8), (9, 0, v9)]) [1, 2, 3, 4, 5, 6, 7, 8, 9, 0] rfl ?_
    exact gh_L2_sound (T := fun v7 v9 => gh_T E (gh_yModel_rowMakes.cls, prog_14_method_65_code, 11, false, 8) (d + 0) 50 [(0, 2, 63), (1, 0, v1), (2, 0, v2), (3, 0, v3), (4, 0, v4), (5, 0, v5), (6, 0, v6), (7, 0, v7), (8, 0, v8), (9, 0, v9)] [] m (fun r m1 => m1 = m ∧ Q r)) (fun _ _ => gh_F m) (fun K50 v7 v9 hK hF h => b_Model_rowMakes_50 d hK38 hK v7 v9 hF h) v7 v9 hF h
  · have h := hB c3522
    refine gh_iload gd_Model_rowMakes_158 7 rfl ?_
    refine gh_istore (L2 := [(4, 0, v7), (0, 2, 63), (1, 0, v1), (2, 0, v2), (3, 0, v3), (5, 0, v5), (6, 0, v6), (7, 0, v7), (8, 0, v8)]) gd_Model_rowMakes_160 (by decide) rfl ?_
    obtain ⟨q3548, h⟩ := h
    refine gh_iinc (L2 := [(5, 0, v5 + 1), (4, 0, v7), (0, 2, 63), (1, 0, v1), (2, 0, v2), (3, 0, v3), (6, 0, v6), (7, 0, v7), (8, 0, v8)]) gd_Model_rowMakes_162 5 rfl q3548 (by decide) rfl ?_
    refine gh_goto (tgt := 8) gd_Model_rowMakes_165 (by decide) ?_
    refine gh_pick (L2 := [(0, 2, 63), (1, 0, v1), (2, 0, v2), (3, 0, v3), (4, 0, v7), (5, 0, v5 + 1)]) [2, 3, 4, 5, 1, 0] rfl ?_
    exact hK8 v7 (v5 + 1) hF h
theorem b_Model_rowMakes_8 {E : gh_E} {v1 : Int} {v2 : Int} {v3 : Int} {Q : Int → Prop} {K8 : Int → Int → Prop} (d : Nat) {m : gh_M} (hK : ∀ (v4 : Int) (v5 : Int), gh_F m → K8 v4 v5 → gh_T E (gh_yModel_rowMakes.cls, prog_14_method_65_code, 11, false, 8) (d + 0) 8 [(0, 2, 63), (1, 0, v1), (2, 0, v2), (3, 0, v3), (4, 0, v4), (5, 0, v5)] [] m (fun r m1 => m1 = m ∧ Q r)) (v4 : Int) (v5 : Int) (hF : gh_F m) (h : f_Model_rowMakes_8 v1 v2 v3 Q m K8 v4 v5) : gh_T E (gh_yModel_rowMakes.cls, prog_14_method_65_code, 11, false, 8) (d + 0) 8 [(0, 2, 63), (1, 0, v1), (2, 0, v2), (3, 0, v3), (4, 0, v4), (5, 0, v5)] [] m (fun r m1 => m1 = m ∧ Q r) := by
  have hK8 := hK
  unfold f_Model_rowMakes_8 at h
  refine gh_iload gd_Model_rowMakes_8 5 rfl ?_
  refine gh_aload_n gd_Model_rowMakes_10 0 rfl (by decide) ?_
  refine gf_63_43 gd_Model_rowMakes_11 gh_k1410 hF ?_
  refine gh_iload_n gd_Model_rowMakes_14 1 rfl ?_
  obtain ⟨q3515, h⟩ := h
  obtain ⟨q3516, h⟩ := h
  refine la_89 gd_Model_rowMakes_15 hF q3515 q3516 rfl ?_
  obtain ⟨hA, hB⟩ := h
  refine gh_jge (tgt := 168) gd_Model_rowMakes_16 (by decide) (fun c3517 => ?_) (fun c3517 => ?_)
  · have h := hA c3517
    refine gh_aload_n gd_Model_rowMakes_19 0 rfl (by decide) ?_
    refine gf_63_44 gd_Model_rowMakes_20 gh_k1411 hF ?_
    refine gh_iconst gd_Model_rowMakes_23 (gh_r0 rfl) ?_
    refine gh_iload_n gd_Model_rowMakes_24 1 rfl ?_
    obtain ⟨q3518, h⟩ := h
    refine gh_imul gd_Model_rowMakes_25 q3518 ?_
    refine gh_iload gd_Model_rowMakes_26 5 rfl ?_
    obtain ⟨q3519, h⟩ := h
    refine gh_iadd gd_Model_rowMakes_28 q3519 ?_
    obtain ⟨q3520, h⟩ := h
    obtain ⟨q3521, h⟩ := h
    refine la_90 gd_Model_rowMakes_29 hF q3520 q3521 rfl ?_
    refine gh_name (fun v6 hn => ?_)
    have h := h v6 hn
    refine gh_istore (L2 := [(6, 0, v6), (0, 2, 63), (1, 0, v1), (2, 0, v2), (3, 0, v3), (4, 0, v4), (5, 0, v5)]) gd_Model_rowMakes_30 (by decide) rfl ?_
    refine gh_iconst gd_Model_rowMakes_32 (gh_r0 rfl) ?_
    refine gh_istore (L2 := [(7, 0, 0), (6, 0, v6), (0, 2, 63), (1, 0, v1), (2, 0, v2), (3, 0, v3), (4, 0, v4), (5, 0, v5)]) gd_Model_rowMakes_33 (by decide) rfl ?_
    refine gh_iload_n gd_Model_rowMakes_35 4 rfl ?_
    refine gh_istore (L2 := [(8, 0, v2), (7, 0, 0), (6, 0, v6), (0, 2, 63), (1, 0, v1), (2, 0, v2), (3, 0, v3), (4, 0, v4), (5, 0, v5)]) gd_Model_rowMakes_36 (by decide) rfl ?_
    refine gh_pick (L2 := [(0, 2, 63), (1, 0, v1), (2, 0, v2), (3, 0, v3), (4, 0, v4), (5, 0, v5), (6, 0, v6), (7, 0, 0), (8, 0, v2)]) [3, 4, 5, 6, 7, 8, 2, 1, 0] rfl ?_
    exact gh_L2_sound (T := fun v7 v8 => gh_T E (gh_yModel_rowMakes.cls, prog_14_method_65_code, 11, false, 8) (d + 0) 38 [(0, 2, 63), (1, 0, v1), (2, 0, v2), (3, 0, v3), (4, 0, v4), (5, 0, v5), (6, 0, v6), (7, 0, v7), (8, 0, v8)] [] m (fun r m1 => m1 = m ∧ Q r)) (fun _ _ => gh_F m) (fun K38 v7 v8 hK hF h => b_Model_rowMakes_38 d hK8 hK v7 v8 hF h) 0 v2 hF h
  · have h := hB c3517
    refine gh_iload gd_Model_rowMakes_168 4 rfl ?_
    refine gh_iload_n gd_Model_rowMakes_170 3 rfl ?_
    refine gh_ishr gd_Model_rowMakes_171 ?_
    refine gh_iconst gd_Model_rowMakes_172 (gh_r0 rfl) ?_
    refine gh_iand gd_Model_rowMakes_173 ?_
    refine gh_iconst gd_Model_rowMakes_174 (gh_r0 rfl) ?_
    have k3549 : ∀ x3550 : Int, x3550 = (if ((gh_iand_f (gh_ishr_f v4 v3) 1) = 1) then (1:Int) else 0) → gh_T E (gh_yModel_rowMakes.cls, prog_14_method_65_code, 11, false, 8) (d + 0) 183 [(0, 2, 63), (1, 0, v1), (2, 0, v2), (3, 0, v3), (4, 0, v4), (5, 0, v5)] [(0, x3550)] m (fun r m1 => m1 = m ∧ Q r) := by
      rintro _ rfl
      exact gh_ret8 rfl gd_Model_rowMakes_183 gh_ib01 ⟨rfl, h⟩
    refine gh_jne (tgt := 182) gd_Model_rowMakes_175 (by decide) (fun c3551 => ?_) (fun c3551 => ?_)
    · have hz : True := trivial
      refine gh_iconst gd_Model_rowMakes_178 (gh_r0 rfl) ?_
      refine gh_goto (tgt := 183) gd_Model_rowMakes_179 (by decide) ?_
      exact k3549 _ (if_pos (c := ((gh_iand_f (gh_ishr_f v4 v3) 1) = 1)) c3551).symm
    · have hz : True := trivial
      refine gh_iconst gd_Model_rowMakes_182 (gh_r0 rfl) ?_
      exact k3549 _ (if_neg (c := ((gh_iand_f (gh_ishr_f v4 v3) 1) = 1)) c3551).symm
theorem s_Model_rowMakes {E : gh_E} {m : gh_M} {Q : Int → Prop} (d : Nat) (v1 : Int) (v2 : Int) (v3 : Int) (hF : gh_F m) (h : w_Model_rowMakes v1 v2 v3 m Q) : gh_C E gh_yModel_rowMakes prog_14_method_65_code 11 (some .boolean) 8 (d + 0) [(2, 63), (0, v1), (0, v2), (0, v3)] m (fun r m1 => m1 = m ∧ Q r) := by
  refine gh_enter2 (L := [(0, 2, 63), (1, 0, v1), (2, 0, v2), (3, 0, v3)]) (by decide +kernel) gh_rt8 (Nat.le_of_ble_eq_true rfl) rfl rfl ?_
  unfold w_Model_rowMakes at h
  refine gh_iconst gd_Model_rowMakes_0 (gh_r0 rfl) ?_
  refine gh_iload_n gd_Model_rowMakes_1 2 rfl ?_
  refine gh_ishl gd_Model_rowMakes_2 ?_
  refine gh_name (fun v4 hn => ?_)
  have h := h v4 hn
  refine gh_istore (L2 := [(4, 0, v4), (0, 2, 63), (1, 0, v1), (2, 0, v2), (3, 0, v3)]) gd_Model_rowMakes_3 (by decide) rfl ?_
  refine gh_iconst gd_Model_rowMakes_5 (gh_r0 rfl) ?_
  refine gh_istore (L2 := [(5, 0, 0), (4, 0, v4), (0, 2, 63), (1, 0, v1), (2, 0, v2), (3, 0, v3)]) gd_Model_rowMakes_6 (by decide) rfl ?_
  refine gh_pick (L2 := [(0, 2, 63), (1, 0, v1), (2, 0, v2), (3, 0, v3), (4, 0, v4), (5, 0, 0)]) [2, 3, 4, 5, 1, 0] rfl ?_
  exact gh_L2_sound (T := fun v4 v5 => gh_T E (gh_yModel_rowMakes.cls, prog_14_method_65_code, 11, false, 8) (d + 0) 8 [(0, 2, 63), (1, 0, v1), (2, 0, v2), (3, 0, v3), (4, 0, v4), (5, 0, v5)] [] m (fun r m1 => m1 = m ∧ Q r)) (fun _ _ => gh_F m) (fun K8 v4 v5 hK hF h => b_Model_rowMakes_8 d hK v4 v5 hF h) v4 0 hF h
def f_Model_properly_79 (v1 : Int) (v2 : Int) (v3 : Int) (v4 : Int) (K64 : Int → gh_M → Prop) (m : gh_M) (K79 : Int → Int → Prop) (v5 : Int) (v6 : Int) : Prop := ∃ J136 : Int → Prop, (∀ (v5' : Int), J136 v5' → gh_i (81 * v4) ∧ gh_i (9 * v3) ∧ gh_i ((81 * v4) + (9 * v3)) ∧ gh_i (((81 * v4) + (9 * v3)) + v3) ∧ gh_i ((((81 * v4) + (9 * v3)) + v3) + v2) ∧ 0 ≤ (((81 * v4) + (9 * v3)) + v3) + v2 ∧ ((((81 * v4) + (9 * v3)) + v3) + v2) < 648 ∧ (v5' = 0 ∨ v5' = 1) ∧ gh_i (v4 + 1) ∧ K64 (v4 + 1) (gh_u m 104 ((((81 * v4) + (9 * v3)) + v3) + v2) v5')) ∧ ((((v6 < (m 63 42)) ∧ (v5 = 0)) → gh_i (320 * v4) ∧ gh_i ((320 * v4) + v6) ∧ 0 ≤ (320 * v4) + v6 ∧ ((320 * v4) + v6) < 2560 ∧ ∃ J128 : Int → Prop, (∀ (y0 : Int), J128 y0 → gh_i (v6 + 1) ∧ K79 y0 (v6 + 1)) ∧ ∃ J127 : Prop, (J127 → J128 0) ∧ (((m 92 ((320 * v4) + v6)) = 0 → J127) ∧ (¬ ((m 92 ((320 * v4) + v6)) = 0) → gh_i (v3 + v2) ∧ w_Model_rowMakes v6 v3 (v3 + v2) m (fun r3580 => ((r3580 = 0 → J127) ∧ (¬ (r3580 = 0) → J128 1)))))) ∧ (¬ ((v6 < (m 63 42)) ∧ (v5 = 0)) → J136 v5))
def f_Model_properly_64 (v1 : Int) (v2 : Int) (v3 : Int) (K54 : Int → gh_M → Prop) (K64 : Int → gh_M → Prop) (v4 : Int) (m : gh_M) : Prop := ((v4 < (m 63 26) → gh_L2 (fun K79 v5 v6 => f_Model_properly_79 v1 v2 v3 v4 K64 m K79 v5 v6) 0 0) ∧ (¬ (v4 < (m 63 26)) → gh_i (v3 + 1) ∧ K54 (v3 + 1) m))
def f_Model_properly_54 (v1 : Int) (v2 : Int) (K47 : Int → gh_M → Prop) (K54 : Int → gh_M → Prop) (v3 : Int) (m : gh_M) : Prop := gh_i (v3 + v2) ∧ (((v3 + v2) ≤ v1 → gh_M1 (fun K64 v4 m => f_Model_properly_64 v1 v2 v3 K54 K64 v4 m) 0 m) ∧ (¬ ((v3 + v2) ≤ v1) → gh_i (v2 + 1) ∧ K47 (v2 + 1) m))
def f_Model_properly_47 (v1 : Int) (Q : Int → gh_M → Prop) (K47 : Int → gh_M → Prop) (v2 : Int) (m : gh_M) : Prop := ((v2 ≤ v1 → gh_M1 (fun K54 v3 m => f_Model_properly_54 v1 v2 K47 K54 v3 m) 0 m) ∧ (¬ (v2 ≤ v1) → 0 ≤ v1 ∧ v1 < 648 ∧ Q (if p_Model_bit (m 104 v1) then (1:Int) else 0) m))
def f_Model_properly_25 (v1 : Int) (Q : Int → gh_M → Prop) (K25 : Int → gh_M → Prop) (v2 : Int) (m : gh_M) : Prop := ((v2 < 648 → 0 ≤ v2 ∧ v2 < 648 ∧ gh_i (v2 + 1) ∧ K25 (v2 + 1) (gh_u m 104 v2 0)) ∧ (¬ (v2 < 648) → gh_M1 (fun K47 v2 m => f_Model_properly_47 v1 Q K47 v2 m) 1 m))
def w_Model_properly (v1 : Int) (m : gh_M) (Q : Int → gh_M → Prop) : Prop := (((m 63 24) = 0 → Q (-1003) m) ∧ (¬ ((m 63 24) = 0) → ((p_Model_isPlace v1 m → gh_M1 (fun K25 v2 m => f_Model_properly_25 v1 Q K25 v2 m) 0 m) ∧ (¬ (p_Model_isPlace v1 m) → Q (-1001) m))))
theorem b_Model_properly_79 {E : gh_E} {v1 : Int} {v2 : Int} {v3 : Int} {v4 : Int} {K64 : Int → gh_M → Prop} {Q : Int → gh_M → Prop} {K79 : Int → Int → Prop} (d : Nat) {m : gh_M} (hK64 : ∀ (v4 : Int) (m : gh_M), gh_F m → K64 v4 m → gh_T E (gh_yModel_properly.cls, prog_14_method_66_code, 7, false, 0) (d + 2) 64 [(0, 2, 63), (1, 0, v1), (2, 0, v2), (3, 0, v3), (4, 0, v4)] [] m (fun r m1 => gh_F m1 ∧ Q r m1)) (hK : ∀ (v5 : Int) (v6 : Int), gh_F m → K79 v5 v6 → gh_T E (gh_yModel_properly.cls, prog_14_method_66_code, 7, false, 0) (d + 2) 79 [(0, 2, 63), (1, 0, v1), (2, 0, v2), (3, 0, v3), (4, 0, v4), (5, 0, v5), (6, 0, v6)] [] m (fun r m1 => gh_F m1 ∧ Q r m1)) (v5 : Int) (v6 : Int) (hF : gh_F m) (h : f_Model_properly_79 v1 v2 v3 v4 K64 m K79 v5 v6) : gh_T E (gh_yModel_properly.cls, prog_14_method_66_code, 7, false, 0) (d + 2) 79 [(0, 2, 63), (1, 0, v1), (2, 0, v2), (3, 0, v3), (4, 0, v4), (5, 0, v5), (6, 0, v6)] [] m (fun r m1 => gh_F m1 ∧ Q r m1) := by
  have hK79 := hK
  unfold f_Model_properly_79 at h
  refine gh_iload gd_Model_properly_79 6 rfl ?_
  refine gh_aload_n gd_Model_properly_81 0 rfl (by decide) ?_
  refine gf_63_42 gd_Model_properly_82 gh_k1409 hF rfl ?_
  obtain ⟨J136, hJ136, h⟩ := h
  have hJ136 : ∀ (v5' : Int), gh_F m → J136 v5' → gh_T E (gh_yModel_properly.cls, prog_14_method_66_code, 7, false, 0) (d + 2) 136 [(0, 2, 63), (1, 0, v1), (2, 0, v2), (3, 0, v3), (4, 0, v4), (5, 0, v5')] [] m (fun r m1 => gh_F m1 ∧ Q r m1) := by
    intro v5' hF hj
    have h := hJ136 v5' hj
    refine gh_aload_n gd_Model_properly_136 0 rfl (by decide) ?_
    refine gf_63_60 gd_Model_properly_137 gh_k1427 hF ?_
    refine gh_bipush gd_Model_properly_140 (by decide) (gh_r0 rfl) ?_
    refine gh_iload gd_Model_properly_142 4 rfl ?_
    obtain ⟨q3562, h⟩ := h
    refine gh_imul gd_Model_properly_144 q3562 ?_
    refine gh_bipush gd_Model_properly_145 (by decide) (gh_r0 rfl) ?_
    refine gh_iload_n gd_Model_properly_147 3 rfl ?_
    obtain ⟨q3563, h⟩ := h
    refine gh_imul gd_Model_properly_148 q3563 ?_
    obtain ⟨q3564, h⟩ := h
    refine gh_iadd gd_Model_properly_149 q3564 ?_
    refine gh_iload_n gd_Model_properly_150 3 rfl ?_
    obtain ⟨q3565, h⟩ := h
    refine gh_iadd gd_Model_properly_151 q3565 ?_
    refine gh_iload_n gd_Model_properly_152 2 rfl ?_
    obtain ⟨q3566, h⟩ := h
    refine gh_iadd gd_Model_properly_153 q3566 ?_
    refine gh_iload gd_Model_properly_154 5 rfl ?_
    obtain ⟨q3567, h⟩ := h
    obtain ⟨q3568, h⟩ := h
    obtain ⟨q3569, h⟩ := h
    refine sa_104 gd_Model_properly_156 hF q3567 q3568 q3569 (fun hF => ?_)
    obtain ⟨q3570, h⟩ := h
    refine gh_iinc (L2 := [(4, 0, v4 + 1), (0, 2, 63), (1, 0, v1), (2, 0, v2), (3, 0, v3), (5, 0, v5')]) gd_Model_properly_157 4 rfl q3570 (by decide) rfl ?_
    refine gh_goto (tgt := 64) gd_Model_properly_160 (by decide) ?_
    refine gh_pick (L2 := [(0, 2, 63), (1, 0, v1), (2, 0, v2), (3, 0, v3), (4, 0, v4 + 1)]) [1, 2, 3, 4, 0] rfl ?_
    exact hK64 (v4 + 1) (gh_u m 104 ((((81 * v4) + (9 * v3)) + v3) + v2) v5') hF h
  obtain ⟨hA, hB⟩ := h
  have k3571 : ((v6 < (m 63 42)) ∧ (v5 = 0)) → gh_T E (gh_yModel_properly.cls, prog_14_method_66_code, 7, false, 0) (d + 2) 93 [(0, 2, 63), (1, 0, v1), (2, 0, v2), (3, 0, v3), (4, 0, v4), (5, 0, v5), (6, 0, v6)] [] m (fun r m1 => gh_F m1 ∧ Q r m1) := by
    intro c
    have h := hA c
    refine gh_aload_n gd_Model_properly_93 0 rfl (by decide) ?_
    refine gf_63_46 gd_Model_properly_94 gh_k1413 hF ?_
    refine gh_sipush gd_Model_properly_97 (by decide) (gh_r0 rfl) ?_
    refine gh_iload gd_Model_properly_100 4 rfl ?_
    obtain ⟨q3573, h⟩ := h
    refine gh_imul gd_Model_properly_102 q3573 ?_
    refine gh_iload gd_Model_properly_103 6 rfl ?_
    obtain ⟨q3574, h⟩ := h
    refine gh_iadd gd_Model_properly_105 q3574 ?_
    obtain ⟨q3575, h⟩ := h
    obtain ⟨q3576, h⟩ := h
    refine la_92 gd_Model_properly_106 hF q3575 q3576 rfl ?_
    obtain ⟨J128, hJ128, h⟩ := h
    have hJ128 : ∀ (y0 : Int), gh_F m → J128 y0 → gh_T E (gh_yModel_properly.cls, prog_14_method_66_code, 7, false, 0) (d + 2) 128 [(0, 2, 63), (1, 0, v1), (2, 0, v2), (3, 0, v3), (4, 0, v4), (6, 0, v6)] [(0, y0)] m (fun r m1 => gh_F m1 ∧ Q r m1) := by
      intro y0 hF hj
      have h := hJ128 y0 hj
      refine gh_istore (L2 := [(5, 0, y0), (0, 2, 63), (1, 0, v1), (2, 0, v2), (3, 0, v3), (4, 0, v4), (6, 0, v6)]) gd_Model_properly_128 (by decide) rfl ?_
      obtain ⟨q3577, h⟩ := h
      refine gh_iinc (L2 := [(6, 0, v6 + 1), (5, 0, y0), (0, 2, 63), (1, 0, v1), (2, 0, v2), (3, 0, v3), (4, 0, v4)]) gd_Model_properly_130 6 rfl q3577 (by decide) rfl ?_
      refine gh_goto (tgt := 79) gd_Model_properly_133 (by decide) ?_
      refine gh_pick (L2 := [(0, 2, 63), (1, 0, v1), (2, 0, v2), (3, 0, v3), (4, 0, v4), (5, 0, y0), (6, 0, v6 + 1)]) [2, 3, 4, 5, 6, 1, 0] rfl ?_
      exact hK79 y0 (v6 + 1) hF h
    obtain ⟨J127, hJ127, h⟩ := h
    have hJ127 : gh_F m → J127 → gh_T E (gh_yModel_properly.cls, prog_14_method_66_code, 7, false, 0) (d + 2) 127 [(0, 2, 63), (1, 0, v1), (2, 0, v2), (3, 0, v3), (4, 0, v4), (6, 0, v6)] [] m (fun r m1 => gh_F m1 ∧ Q r m1) := by
      intro hF hj
      have h := hJ127 hj
      refine gh_iconst gd_Model_properly_127 (gh_r0 rfl) ?_
      exact hJ128 0 hF h
    obtain ⟨hA, hB⟩ := h
    refine gh_zeq (tgt := 127) gd_Model_properly_107 (by decide) (fun c3578 => ?_) (fun c3578 => ?_)
    · have h := hA c3578
      refine gh_pick (L2 := [(0, 2, 63), (1, 0, v1), (2, 0, v2), (3, 0, v3), (4, 0, v4), (6, 0, v6)]) [0, 1, 2, 3, 4, 6] rfl ?_
      exact hJ127 hF h
    · have h := hB c3578
      refine gh_aload_n gd_Model_properly_110 0 rfl (by decide) ?_
      refine gh_iload gd_Model_properly_111 6 rfl ?_
      refine gh_iload_n gd_Model_properly_113 3 rfl ?_
      refine gh_iload_n gd_Model_properly_114 3 rfl ?_
      refine gh_iload_n gd_Model_properly_115 2 rfl ?_
      obtain ⟨q3579, h⟩ := h
      refine gh_iadd gd_Model_properly_116 q3579 ?_
      refine cv_Model_rowMakes (d := d + 1) gd_Model_properly_117 gh_k1876 hF (Nat.le_of_ble_eq_true rfl) (gh_C.pw (s_Model_rowMakes (d + 1) v6 v3 (v3 + v2) hF h) (fun r3580 h => ?_))
      obtain ⟨hA, hB⟩ := h
      refine gh_zeq (tgt := 127) gd_Model_properly_120 (by decide) (fun c3582 => ?_) (fun c3582 => ?_)
      · have h := hA c3582
        refine gh_pick (L2 := [(0, 2, 63), (1, 0, v1), (2, 0, v2), (3, 0, v3), (4, 0, v4), (6, 0, v6)]) [0, 1, 2, 3, 4, 6] rfl ?_
        exact hJ127 hF h
      · have h := hB c3582
        refine gh_iconst gd_Model_properly_123 (gh_r0 rfl) ?_
        refine gh_goto (tgt := 128) gd_Model_properly_124 (by decide) ?_
        refine gh_pick (L2 := [(0, 2, 63), (1, 0, v1), (2, 0, v2), (3, 0, v3), (4, 0, v4), (6, 0, v6)]) [0, 1, 2, 3, 4, 6] rfl ?_
        exact hJ128 1 hF h
  have k3572 : ¬ ((v6 < (m 63 42)) ∧ (v5 = 0)) → gh_T E (gh_yModel_properly.cls, prog_14_method_66_code, 7, false, 0) (d + 2) 136 [(0, 2, 63), (1, 0, v1), (2, 0, v2), (3, 0, v3), (4, 0, v4), (5, 0, v5), (6, 0, v6)] [] m (fun r m1 => gh_F m1 ∧ Q r m1) := by
    intro c
    have h := hB c
    refine gh_pick (L2 := [(0, 2, 63), (1, 0, v1), (2, 0, v2), (3, 0, v3), (4, 0, v4), (5, 0, v5)]) [0, 1, 2, 3, 4, 5] rfl ?_
    exact hJ136 v5 hF h
  refine gh_jge (tgt := 136) gd_Model_properly_85 (by decide) (fun c3583 => ?_) (fun c3583 => ?_)
  · have hz : True := trivial
    refine gh_iload gd_Model_properly_88 5 rfl ?_
    refine gh_zne (tgt := 136) gd_Model_properly_90 (by decide) (fun c3584 => ?_) (fun c3584 => ?_)
    · have hz : True := trivial
      exact k3571 ⟨c3583, c3584⟩
    · have hz : True := trivial
      exact k3572 (fun z => c3584 z.2)
  · have hz : True := trivial
    exact k3572 (fun z => c3583 z.1)
theorem b_Model_properly_64 {E : gh_E} {v1 : Int} {v2 : Int} {v3 : Int} {K54 : Int → gh_M → Prop} {Q : Int → gh_M → Prop} {K64 : Int → gh_M → Prop} (d : Nat) (hK54 : ∀ (v3 : Int) (m : gh_M), gh_F m → K54 v3 m → gh_T E (gh_yModel_properly.cls, prog_14_method_66_code, 7, false, 0) (d + 2) 54 [(0, 2, 63), (1, 0, v1), (2, 0, v2), (3, 0, v3)] [] m (fun r m1 => gh_F m1 ∧ Q r m1)) (hK : ∀ (v4 : Int) (m : gh_M), gh_F m → K64 v4 m → gh_T E (gh_yModel_properly.cls, prog_14_method_66_code, 7, false, 0) (d + 2) 64 [(0, 2, 63), (1, 0, v1), (2, 0, v2), (3, 0, v3), (4, 0, v4)] [] m (fun r m1 => gh_F m1 ∧ Q r m1)) (v4 : Int) (m : gh_M) (hF : gh_F m) (h : f_Model_properly_64 v1 v2 v3 K54 K64 v4 m) : gh_T E (gh_yModel_properly.cls, prog_14_method_66_code, 7, false, 0) (d + 2) 64 [(0, 2, 63), (1, 0, v1), (2, 0, v2), (3, 0, v3), (4, 0, v4)] [] m (fun r m1 => gh_F m1 ∧ Q r m1) := by
  have hK64 := hK
  unfold f_Model_properly_64 at h
  refine gh_iload gd_Model_properly_64 4 rfl ?_
  refine gh_aload_n gd_Model_properly_66 0 rfl (by decide) ?_
  refine gf_63_26 gd_Model_properly_67 gh_k1393 hF rfl ?_
  obtain ⟨hA, hB⟩ := h
  refine gh_jge (tgt := 163) gd_Model_properly_70 (by decide) (fun c3561 => ?_) (fun c3561 => ?_)
  · have h := hA c3561
    refine gh_iconst gd_Model_properly_73 (gh_r0 rfl) ?_
    refine gh_istore (L2 := [(5, 0, 0), (0, 2, 63), (1, 0, v1), (2, 0, v2), (3, 0, v3), (4, 0, v4)]) gd_Model_properly_74 (by decide) rfl ?_
    refine gh_iconst gd_Model_properly_76 (gh_r0 rfl) ?_
    refine gh_istore (L2 := [(6, 0, 0), (5, 0, 0), (0, 2, 63), (1, 0, v1), (2, 0, v2), (3, 0, v3), (4, 0, v4)]) gd_Model_properly_77 (by decide) rfl ?_
    refine gh_pick (L2 := [(0, 2, 63), (1, 0, v1), (2, 0, v2), (3, 0, v3), (4, 0, v4), (5, 0, 0), (6, 0, 0)]) [2, 3, 4, 5, 6, 1, 0] rfl ?_
    exact gh_L2_sound (T := fun v5 v6 => gh_T E (gh_yModel_properly.cls, prog_14_method_66_code, 7, false, 0) (d + 2) 79 [(0, 2, 63), (1, 0, v1), (2, 0, v2), (3, 0, v3), (4, 0, v4), (5, 0, v5), (6, 0, v6)] [] m (fun r m1 => gh_F m1 ∧ Q r m1)) (fun _ _ => gh_F m) (fun K79 v5 v6 hK hF h => b_Model_properly_79 d hK64 hK v5 v6 hF h) 0 0 hF h
  · have h := hB c3561
    obtain ⟨q3585, h⟩ := h
    refine gh_iinc (L2 := [(3, 0, v3 + 1), (0, 2, 63), (1, 0, v1), (2, 0, v2), (4, 0, v4)]) gd_Model_properly_163 3 rfl q3585 (by decide) rfl ?_
    refine gh_goto (tgt := 54) gd_Model_properly_166 (by decide) ?_
    refine gh_pick (L2 := [(0, 2, 63), (1, 0, v1), (2, 0, v2), (3, 0, v3 + 1)]) [1, 2, 3, 0] rfl ?_
    exact hK54 (v3 + 1) m hF h
theorem b_Model_properly_54 {E : gh_E} {v1 : Int} {v2 : Int} {K47 : Int → gh_M → Prop} {Q : Int → gh_M → Prop} {K54 : Int → gh_M → Prop} (d : Nat) (hK47 : ∀ (v2 : Int) (m : gh_M), gh_F m → K47 v2 m → gh_T E (gh_yModel_properly.cls, prog_14_method_66_code, 7, false, 0) (d + 2) 47 [(0, 2, 63), (1, 0, v1), (2, 0, v2)] [] m (fun r m1 => gh_F m1 ∧ Q r m1)) (hK : ∀ (v3 : Int) (m : gh_M), gh_F m → K54 v3 m → gh_T E (gh_yModel_properly.cls, prog_14_method_66_code, 7, false, 0) (d + 2) 54 [(0, 2, 63), (1, 0, v1), (2, 0, v2), (3, 0, v3)] [] m (fun r m1 => gh_F m1 ∧ Q r m1)) (v3 : Int) (m : gh_M) (hF : gh_F m) (h : f_Model_properly_54 v1 v2 K47 K54 v3 m) : gh_T E (gh_yModel_properly.cls, prog_14_method_66_code, 7, false, 0) (d + 2) 54 [(0, 2, 63), (1, 0, v1), (2, 0, v2), (3, 0, v3)] [] m (fun r m1 => gh_F m1 ∧ Q r m1) := by
  have hK54 := hK
  unfold f_Model_properly_54 at h
  refine gh_iload_n gd_Model_properly_54 3 rfl ?_
  refine gh_iload_n gd_Model_properly_55 2 rfl ?_
  obtain ⟨q3559, h⟩ := h
  refine gh_iadd gd_Model_properly_56 q3559 ?_
  refine gh_iload_n gd_Model_properly_57 1 rfl ?_
  obtain ⟨hA, hB⟩ := h
  refine gh_jgt (tgt := 169) gd_Model_properly_58 (by decide) (fun c3560 => ?_) (fun c3560 => ?_)
  · have h := hA c3560
    refine gh_iconst gd_Model_properly_61 (gh_r0 rfl) ?_
    refine gh_istore (L2 := [(4, 0, 0), (0, 2, 63), (1, 0, v1), (2, 0, v2), (3, 0, v3)]) gd_Model_properly_62 (by decide) rfl ?_
    refine gh_pick (L2 := [(0, 2, 63), (1, 0, v1), (2, 0, v2), (3, 0, v3), (4, 0, 0)]) [1, 2, 3, 4, 0] rfl ?_
    exact gh_M1_sound (T := fun v4 m => gh_T E (gh_yModel_properly.cls, prog_14_method_66_code, 7, false, 0) (d + 2) 64 [(0, 2, 63), (1, 0, v1), (2, 0, v2), (3, 0, v3), (4, 0, v4)] [] m (fun r m1 => gh_F m1 ∧ Q r m1)) (fun _ m => gh_F m) (fun K64 v4 m hK hF h => b_Model_properly_64 d hK54 hK v4 m hF h) 0 m hF h
  · have h := hB c3560
    obtain ⟨q3586, h⟩ := h
    refine gh_iinc (L2 := [(2, 0, v2 + 1), (0, 2, 63), (1, 0, v1), (3, 0, v3)]) gd_Model_properly_169 2 rfl q3586 (by decide) rfl ?_
    refine gh_goto (tgt := 47) gd_Model_properly_172 (by decide) ?_
    refine gh_pick (L2 := [(0, 2, 63), (1, 0, v1), (2, 0, v2 + 1)]) [1, 2, 0] rfl ?_
    exact hK47 (v2 + 1) m hF h
theorem b_Model_properly_47 {E : gh_E} {v1 : Int} {Q : Int → gh_M → Prop} {K47 : Int → gh_M → Prop} (d : Nat) (hK : ∀ (v2 : Int) (m : gh_M), gh_F m → K47 v2 m → gh_T E (gh_yModel_properly.cls, prog_14_method_66_code, 7, false, 0) (d + 2) 47 [(0, 2, 63), (1, 0, v1), (2, 0, v2)] [] m (fun r m1 => gh_F m1 ∧ Q r m1)) (v2 : Int) (m : gh_M) (hF : gh_F m) (h : f_Model_properly_47 v1 Q K47 v2 m) : gh_T E (gh_yModel_properly.cls, prog_14_method_66_code, 7, false, 0) (d + 2) 47 [(0, 2, 63), (1, 0, v1), (2, 0, v2)] [] m (fun r m1 => gh_F m1 ∧ Q r m1) := by
  have hK47 := hK
  unfold f_Model_properly_47 at h
  refine gh_iload_n gd_Model_properly_47 2 rfl ?_
  refine gh_iload_n gd_Model_properly_48 1 rfl ?_
  obtain ⟨hA, hB⟩ := h
  refine gh_jgt (tgt := 175) gd_Model_properly_49 (by decide) (fun c3558 => ?_) (fun c3558 => ?_)
  · have h := hA c3558
    refine gh_iconst gd_Model_properly_52 (gh_r0 rfl) ?_
    refine gh_istore_n (L2 := [(3, 0, 0), (0, 2, 63), (1, 0, v1), (2, 0, v2)]) gd_Model_properly_53 (by decide) rfl ?_
    refine gh_pick (L2 := [(0, 2, 63), (1, 0, v1), (2, 0, v2), (3, 0, 0)]) [1, 2, 3, 0] rfl ?_
    exact gh_M1_sound (T := fun v3 m => gh_T E (gh_yModel_properly.cls, prog_14_method_66_code, 7, false, 0) (d + 2) 54 [(0, 2, 63), (1, 0, v1), (2, 0, v2), (3, 0, v3)] [] m (fun r m1 => gh_F m1 ∧ Q r m1)) (fun _ m => gh_F m) (fun K54 v3 m hK hF h => b_Model_properly_54 d hK47 hK v3 m hF h) 0 m hF h
  · have h := hB c3558
    refine gh_aload_n gd_Model_properly_175 0 rfl (by decide) ?_
    refine gf_63_60 gd_Model_properly_176 gh_k1427 hF ?_
    refine gh_iload_n gd_Model_properly_179 1 rfl ?_
    obtain ⟨q3587, h⟩ := h
    obtain ⟨q3588, h⟩ := h
    refine la_104 gd_Model_properly_180 hF q3587 q3588 rfl ?_
    refine cv_Model_bit (d := d + 1) gd_Model_properly_181 gh_k1817 (Nat.le_of_ble_eq_true rfl) (gh_C.pe (e_Model_bit (d + 1) (m 104 v1)) ?_)
    exact gh_ret0 rfl gd_Model_properly_184 ⟨hF, h⟩
theorem b_Model_properly_25 {E : gh_E} {v1 : Int} {Q : Int → gh_M → Prop} {K25 : Int → gh_M → Prop} (d : Nat) (hK : ∀ (v2 : Int) (m : gh_M), gh_F m → K25 v2 m → gh_T E (gh_yModel_properly.cls, prog_14_method_66_code, 7, false, 0) (d + 2) 25 [(0, 2, 63), (1, 0, v1), (2, 0, v2)] [] m (fun r m1 => gh_F m1 ∧ Q r m1)) (v2 : Int) (m : gh_M) (hF : gh_F m) (h : f_Model_properly_25 v1 Q K25 v2 m) : gh_T E (gh_yModel_properly.cls, prog_14_method_66_code, 7, false, 0) (d + 2) 25 [(0, 2, 63), (1, 0, v1), (2, 0, v2)] [] m (fun r m1 => gh_F m1 ∧ Q r m1) := by
  have hK25 := hK
  unfold f_Model_properly_25 at h
  refine gh_iload_n gd_Model_properly_25 2 rfl ?_
  refine gh_sipush gd_Model_properly_26 (by decide) (gh_r0 rfl) ?_
  obtain ⟨hA, hB⟩ := h
  refine gh_jge (tgt := 45) gd_Model_properly_29 (by decide) (fun c3554 => ?_) (fun c3554 => ?_)
  · have h := hA c3554
    refine gh_aload_n gd_Model_properly_32 0 rfl (by decide) ?_
    refine gf_63_60 gd_Model_properly_33 gh_k1427 hF ?_
    refine gh_iload_n gd_Model_properly_36 2 rfl ?_
    refine gh_iconst gd_Model_properly_37 (gh_r0 rfl) ?_
    obtain ⟨q3555, h⟩ := h
    obtain ⟨q3556, h⟩ := h
    refine sa_104 gd_Model_properly_38 hF q3555 q3556 (by decide) (fun hF => ?_)
    obtain ⟨q3557, h⟩ := h
    refine gh_iinc (L2 := [(2, 0, v2 + 1), (0, 2, 63), (1, 0, v1)]) gd_Model_properly_39 2 rfl q3557 (by decide) rfl ?_
    refine gh_goto (tgt := 25) gd_Model_properly_42 (by decide) ?_
    refine gh_pick (L2 := [(0, 2, 63), (1, 0, v1), (2, 0, v2 + 1)]) [1, 2, 0] rfl ?_
    exact hK25 (v2 + 1) (gh_u m 104 v2 0) hF h
  · have h := hB c3554
    refine gh_iconst gd_Model_properly_45 (gh_r0 rfl) ?_
    refine gh_istore_n (L2 := [(2, 0, 1), (0, 2, 63), (1, 0, v1)]) gd_Model_properly_46 (by decide) rfl ?_
    refine gh_pick (L2 := [(0, 2, 63), (1, 0, v1), (2, 0, 1)]) [1, 2, 0] rfl ?_
    exact gh_M1_sound (T := fun v2 m => gh_T E (gh_yModel_properly.cls, prog_14_method_66_code, 7, false, 0) (d + 2) 47 [(0, 2, 63), (1, 0, v1), (2, 0, v2)] [] m (fun r m1 => gh_F m1 ∧ Q r m1)) (fun _ m => gh_F m) (fun K47 v2 m hK hF h => b_Model_properly_47 d hK v2 m hF h) 1 m hF h
theorem s_Model_properly {E : gh_E} {m : gh_M} {Q : Int → gh_M → Prop} (d : Nat) (v1 : Int) (hF : gh_F m) (h : w_Model_properly v1 m Q) : gh_C E gh_yModel_properly prog_14_method_66_code 7 (some .int) 0 (d + 2) [(2, 63), (0, v1)] m (fun r m1 => gh_F m1 ∧ Q r m1) := by
  refine gh_enter2 (L := [(0, 2, 63), (1, 0, v1)]) (by decide +kernel) gh_rt0 (Nat.le_of_ble_eq_true rfl) rfl rfl ?_
  unfold w_Model_properly at h
  refine gh_aload_n gd_Model_properly_0 0 rfl (by decide) ?_
  refine gf_63_24 gd_Model_properly_1 gh_k1391 hF rfl ?_
  obtain ⟨hA, hB⟩ := h
  refine gh_zne (tgt := 11) gd_Model_properly_4 (by decide) (fun c3552 => ?_) (fun c3552 => ?_)
  · have h := hA c3552
    refine gh_sipush gd_Model_properly_7 (by decide) (gh_r0 rfl) ?_
    exact gh_ret0 rfl gd_Model_properly_10 ⟨hF, h⟩
  · have h := hB c3552
    refine gh_aload_n gd_Model_properly_11 0 rfl (by decide) ?_
    refine gh_iload_n gd_Model_properly_12 1 rfl ?_
    refine cv_Model_isPlace (d := d + 1) gd_Model_properly_13 gh_k1872 hF (Nat.le_of_ble_eq_true rfl) (gh_C.pe (e_Model_isPlace d v1 hF) ?_)
    obtain ⟨hA, hB⟩ := h
    refine gh_bne (tgt := 23) gd_Model_properly_16 (by decide) (fun c3553 => ?_) (fun c3553 => ?_)
    · have h := hA c3553
      refine gh_iconst gd_Model_properly_23 (gh_r0 rfl) ?_
      refine gh_istore_n (L2 := [(2, 0, 0), (0, 2, 63), (1, 0, v1)]) gd_Model_properly_24 (by decide) rfl ?_
      refine gh_pick (L2 := [(0, 2, 63), (1, 0, v1), (2, 0, 0)]) [1, 2, 0] rfl ?_
      exact gh_M1_sound (T := fun v2 m => gh_T E (gh_yModel_properly.cls, prog_14_method_66_code, 7, false, 0) (d + 2) 25 [(0, 2, 63), (1, 0, v1), (2, 0, v2)] [] m (fun r m1 => gh_F m1 ∧ Q r m1)) (fun _ m => gh_F m) (fun K25 v2 m hK hF h => b_Model_properly_25 d hK v2 m hF h) 0 m hF h
    · have h := hB c3553
      refine gh_sipush gd_Model_properly_19 (by decide) (gh_r0 rfl) ?_
      exact gh_ret0 rfl gd_Model_properly_22 ⟨hF, h⟩
def w_Model_put (v1 : Int) (m : gh_M) (Q : Int → gh_M → Prop) : Prop := (((¬ (v1 < 0) ∧ (v1 ≤ 25)) → (((m 63 24) = 0 → Q (-1003) m) ∧ (¬ ((m 63 24) = 0) → (((m 63 50) = 8 → Q (-1004) m) ∧ (¬ ((m 63 50) = 8) → 0 ≤ m 63 50 ∧ (m 63 50) < 8 ∧ gh_i ((m 63 50) + 1) ∧ w_Model_changed (gh_u (gh_u m 96 (m 63 50) v1) 63 50 ((m 63 50) + 1)) (fun _ m3596 => Q (m3596 63 50) m3596)))))) ∧ (¬ ((¬ (v1 < 0) ∧ (v1 ≤ 25))) → Q (-1002) m))
theorem s_Model_put {E : gh_E} {m : gh_M} {Q : Int → gh_M → Prop} (d : Nat) (v1 : Int) (hF : gh_F m) (h : w_Model_put v1 m Q) : gh_C E gh_yModel_put prog_14_method_73_code 2 (some .int) 0 (d + 1) [(2, 63), (0, v1)] m (fun r m1 => gh_F m1 ∧ Q r m1) := by
  refine gh_enter2 (L := [(0, 2, 63), (1, 0, v1)]) (by decide +kernel) gh_rt0 (Nat.le_of_ble_eq_true rfl) rfl rfl ?_
  unfold w_Model_put at h
  refine gh_iload_n gd_Model_put_0 1 rfl ?_
  refine gh_iconst gd_Model_put_1 (gh_r0 rfl) ?_
  refine gh_bipush gd_Model_put_2 (by decide) (gh_r0 rfl) ?_
  refine cv_Model_in (d := d) gd_Model_put_4 gh_k1628 (Nat.le_of_ble_eq_true rfl) (gh_C.pe (e_Model_in d v1 0 25) ?_)
  obtain ⟨hA, hB⟩ := h
  refine gh_bne (tgt := 14) gd_Model_put_7 (by decide) (fun c3589 => ?_) (fun c3589 => ?_)
  · have h := hA c3589
    refine gh_aload_n gd_Model_put_14 0 rfl (by decide) ?_
    refine gf_63_24 gd_Model_put_15 gh_k1391 hF rfl ?_
    obtain ⟨hA, hB⟩ := h
    refine gh_zne (tgt := 25) gd_Model_put_18 (by decide) (fun c3590 => ?_) (fun c3590 => ?_)
    · have h := hA c3590
      refine gh_sipush gd_Model_put_21 (by decide) (gh_r0 rfl) ?_
      exact gh_ret0 rfl gd_Model_put_24 ⟨hF, h⟩
    · have h := hB c3590
      refine gh_aload_n gd_Model_put_25 0 rfl (by decide) ?_
      refine gf_63_50 gd_Model_put_26 gh_k1417 hF rfl ?_
      refine gh_bipush gd_Model_put_29 (by decide) (gh_r0 rfl) ?_
      obtain ⟨hA, hB⟩ := h
      refine gh_jne (tgt := 38) gd_Model_put_31 (by decide) (fun c3591 => ?_) (fun c3591 => ?_)
      · have h := hA c3591
        refine gh_sipush gd_Model_put_34 (by decide) (gh_r0 rfl) ?_
        exact gh_ret0 rfl gd_Model_put_37 ⟨hF, h⟩
      · have h := hB c3591
        refine gh_aload_n gd_Model_put_38 0 rfl (by decide) ?_
        refine gf_63_51 gd_Model_put_39 gh_k1418 hF ?_
        refine gh_aload_n gd_Model_put_42 0 rfl (by decide) ?_
        refine gf_63_50 gd_Model_put_43 gh_k1417 hF rfl ?_
        refine gh_iload_n gd_Model_put_46 1 rfl ?_
        obtain ⟨q3592, h⟩ := h
        obtain ⟨q3593, h⟩ := h
        refine sa_96 gd_Model_put_47 hF q3592 q3593 (fun hF => ?_)
        refine gh_aload_n gd_Model_put_48 0 rfl (by decide) ?_
        refine gh_dup gd_Model_put_49 (by decide) ?_
        refine gf_63_50 gd_Model_put_50 gh_k1417 hF (gh_u_a (by decide)) ?_
        refine gh_iconst gd_Model_put_53 (gh_r0 rfl) ?_
        obtain ⟨q3594, h⟩ := h
        refine gh_iadd gd_Model_put_54 q3594 ?_
        refine pf_63_50 gd_Model_put_55 gh_k1417 hF (fun hF => ?_)
        refine gh_aload_n gd_Model_put_58 0 rfl (by decide) ?_
        refine cv_Model_changed (d := d) gd_Model_put_59 gh_k1801 hF (Nat.le_of_ble_eq_true rfl) (gh_C.mono (s_Model_changed d hF h) (fun r3595 m3596 hq => ?_))
        obtain ⟨hF, h⟩ := hq
        refine gh_aload_n gd_Model_put_62 0 rfl (by decide) ?_
        refine gf_63_50 gd_Model_put_63 gh_k1417 hF rfl ?_
        exact gh_ret0 rfl gd_Model_put_66 ⟨hF, h⟩
  · have h := hB c3589
    refine gh_sipush gd_Model_put_10 (by decide) (gh_r0 rfl) ?_
    exact gh_ret0 rfl gd_Model_put_13 ⟨hF, h⟩
def w_Model_back (v1 : Int) (m : gh_M) (Q : Int → gh_M → Prop) : Prop := (((¬ (v1 < 0) ∧ (v1 ≤ (m 63 50))) → (((m 63 24) = 0 → Q (-1003) m) ∧ (¬ ((m 63 24) = 0) → gh_i ((m 63 50) - v1) ∧ w_Model_changed (gh_u m 63 50 ((m 63 50) - v1)) (fun _ m3601 => Q (m3601 63 50) m3601)))) ∧ (¬ ((¬ (v1 < 0) ∧ (v1 ≤ (m 63 50)))) → Q (-1002) m))
theorem s_Model_back {E : gh_E} {m : gh_M} {Q : Int → gh_M → Prop} (d : Nat) (v1 : Int) (hF : gh_F m) (h : w_Model_back v1 m Q) : gh_C E gh_yModel_back prog_14_method_74_code 2 (some .int) 0 (d + 1) [(2, 63), (0, v1)] m (fun r m1 => gh_F m1 ∧ Q r m1) := by
  refine gh_enter2 (L := [(0, 2, 63), (1, 0, v1)]) (by decide +kernel) gh_rt0 (Nat.le_of_ble_eq_true rfl) rfl rfl ?_
  unfold w_Model_back at h
  refine gh_iload_n gd_Model_back_0 1 rfl ?_
  refine gh_iconst gd_Model_back_1 (gh_r0 rfl) ?_
  refine gh_aload_n gd_Model_back_2 0 rfl (by decide) ?_
  refine gf_63_50 gd_Model_back_3 gh_k1417 hF rfl ?_
  refine cv_Model_in (d := d) gd_Model_back_6 gh_k1628 (Nat.le_of_ble_eq_true rfl) (gh_C.pe (e_Model_in d v1 0 (m 63 50)) ?_)
  obtain ⟨hA, hB⟩ := h
  refine gh_bne (tgt := 16) gd_Model_back_9 (by decide) (fun c3597 => ?_) (fun c3597 => ?_)
  · have h := hA c3597
    refine gh_aload_n gd_Model_back_16 0 rfl (by decide) ?_
    refine gf_63_24 gd_Model_back_17 gh_k1391 hF rfl ?_
    obtain ⟨hA, hB⟩ := h
    refine gh_zne (tgt := 27) gd_Model_back_20 (by decide) (fun c3598 => ?_) (fun c3598 => ?_)
    · have h := hA c3598
      refine gh_sipush gd_Model_back_23 (by decide) (gh_r0 rfl) ?_
      exact gh_ret0 rfl gd_Model_back_26 ⟨hF, h⟩
    · have h := hB c3598
      refine gh_aload_n gd_Model_back_27 0 rfl (by decide) ?_
      refine gh_dup gd_Model_back_28 (by decide) ?_
      refine gf_63_50 gd_Model_back_29 gh_k1417 hF rfl ?_
      refine gh_iload_n gd_Model_back_32 1 rfl ?_
      obtain ⟨q3599, h⟩ := h
      refine gh_isub gd_Model_back_33 q3599 ?_
      refine pf_63_50 gd_Model_back_34 gh_k1417 hF (fun hF => ?_)
      refine gh_aload_n gd_Model_back_37 0 rfl (by decide) ?_
      refine cv_Model_changed (d := d) gd_Model_back_38 gh_k1801 hF (Nat.le_of_ble_eq_true rfl) (gh_C.mono (s_Model_changed d hF h) (fun r3600 m3601 hq => ?_))
      obtain ⟨hF, h⟩ := hq
      refine gh_aload_n gd_Model_back_41 0 rfl (by decide) ?_
      refine gf_63_50 gd_Model_back_42 gh_k1417 hF rfl ?_
      exact gh_ret0 rfl gd_Model_back_45 ⟨hF, h⟩
  · have h := hB c3597
    refine gh_sipush gd_Model_back_12 (by decide) (gh_r0 rfl) ?_
    exact gh_ret0 rfl gd_Model_back_15 ⟨hF, h⟩
def f_Model_goesOn_43 (v1 : Int) (v3 : Int) (v4 : Int) (v5 : Int) (K30 : Int → Int → gh_M → Prop) (K43 : Int → Int → gh_M → Prop) (v2 : Int) (v6 : Int) (m : gh_M) : Prop := ∃ J134 : Int → gh_M → Prop, (∀ (v2' : Int) (m : gh_M), J134 v2' m → gh_i (v5 + 1) ∧ K30 v2' (v5 + 1) m) ∧ (((v6 ≤ (m 63 50)) → ((gh_i (405 * v1) ∧ gh_i (81 * v3) ∧ gh_i ((405 * v1) + (81 * v3)) ∧ gh_i (9 * v4) ∧ gh_i (((405 * v1) + (81 * v3)) + (9 * v4)) ∧ gh_i ((((405 * v1) + (81 * v3)) + (9 * v4)) + v5)) ∧ 0 ≤ ((((405 * v1) + (81 * v3)) + (9 * v4)) + v5) ∧ (((((405 * v1) + (81 * v3)) + (9 * v4)) + v5)) < 8100))) ∧ (((¬ (v6 ≤ (m 63 50)) ∨ ((m 98 (((((405 * v1) + (81 * v3)) + (9 * v4)) + v5))) = 0)) → J134 v2 m) ∧ (¬ (¬ (v6 ≤ (m 63 50)) ∨ ((m 98 (((((405 * v1) + (81 * v3)) + (9 * v4)) + v5))) = 0)) → gh_i (v3 + 1) ∧ (gh_i (405 * v1) ∧ gh_i (81 * (v3 + 1)) ∧ gh_i ((405 * v1) + (81 * (v3 + 1))) ∧ gh_i (9 * v4) ∧ gh_i (((405 * v1) + (81 * (v3 + 1))) + (9 * v4)) ∧ gh_i ((((405 * v1) + (81 * (v3 + 1))) + (9 * v4)) + v6)) ∧ 0 ≤ ((((405 * v1) + (81 * (v3 + 1))) + (9 * v4)) + v6) ∧ (((((405 * v1) + (81 * (v3 + 1))) + (9 * v4)) + v6)) < 8100 ∧ ∃ J128 : Int → gh_M → Prop, (∀ (v2' : Int) (m : gh_M), J128 v2' m → gh_i (v6 + 1) ∧ K43 v2' (v6 + 1) m) ∧ ((((m 98 (((((405 * v1) + (81 * (v3 + 1))) + (9 * v4)) + v6))) = 0) → (gh_i (4 * v1) ∧ gh_i ((4 * v1) + v3) ∧ 0 ≤ (4 * v1) + v3 ∧ ((4 * v1) + v3) < 80 ∧ k_Model_partMakes (m 81 ((4 * v1) + v3)) v5 v6 m))) ∧ (((¬ ((m 98 (((((405 * v1) + (81 * (v3 + 1))) + (9 * v4)) + v6))) = 0) ∨ ((x_Model_partMakes (m 81 ((4 * v1) + v3)) v5 v6 m) = 0)) → J128 v2 m) ∧ (¬ (¬ ((m 98 (((((405 * v1) + (81 * (v3 + 1))) + (9 * v4)) + v6))) = 0) ∨ ((x_Model_partMakes (m 81 ((4 * v1) + v3)) v5 v6 m) = 0)) → gh_i (v3 + 1) ∧ (gh_i (405 * v1) ∧ gh_i (81 * (v3 + 1)) ∧ gh_i ((405 * v1) + (81 * (v3 + 1))) ∧ gh_i (9 * v4) ∧ gh_i (((405 * v1) + (81 * (v3 + 1))) + (9 * v4)) ∧ gh_i ((((405 * v1) + (81 * (v3 + 1))) + (9 * v4)) + v6)) ∧ 0 ≤ ((((405 * v1) + (81 * (v3 + 1))) + (9 * v4)) + v6) ∧ (((((405 * v1) + (81 * (v3 + 1))) + (9 * v4)) + v6)) < 8100 ∧ J128 1 (gh_u m 98 (((((405 * v1) + (81 * (v3 + 1))) + (9 * v4)) + v6)) 1)))))
def f_Model_goesOn_30 (v1 : Int) (v3 : Int) (v4 : Int) (K17 : Int → Int → gh_M → Prop) (K30 : Int → Int → gh_M → Prop) (v2 : Int) (v5 : Int) (m : gh_M) : Prop := ((v5 ≤ (m 63 50) → gh_M2 (fun K43 v2 v6 m => f_Model_goesOn_43 v1 v3 v4 v5 K30 K43 v2 v6 m) v2 v5 m) ∧ (¬ (v5 ≤ (m 63 50)) → gh_i (v4 + 1) ∧ K17 v2 (v4 + 1) m))
def f_Model_goesOn_17 (v1 : Int) (v3 : Int) (K4 : Int → Int → gh_M → Prop) (K17 : Int → Int → gh_M → Prop) (v2 : Int) (v4 : Int) (m : gh_M) : Prop := ((v4 ≤ (m 63 50) → gh_M2 (fun K30 v2 v5 m => f_Model_goesOn_30 v1 v3 v4 K17 K30 v2 v5 m) v2 v4 m) ∧ (¬ (v4 ≤ (m 63 50)) → gh_i (v3 + 1) ∧ K4 v2 (v3 + 1) m))
def f_Model_goesOn_154 (v1 : Int) (Q : Int → gh_M → Prop) (K154 : Int → Int → gh_M → Prop) (v2 : Int) (v3 : Int) (m : gh_M) : Prop := ((v3 < 81 → gh_i (405 * v1) ∧ 0 ≤ v1 ∧ v1 < 20 ∧ gh_i (81 * (m 80 v1)) ∧ gh_i ((405 * v1) + (81 * (m 80 v1))) ∧ gh_i (((405 * v1) + (81 * (m 80 v1))) + v3) ∧ 0 ≤ ((405 * v1) + (81 * (m 80 v1))) + v3 ∧ (((405 * v1) + (81 * (m 80 v1))) + v3) < 8100 ∧ ∃ J223 : Int → gh_M → Prop, (∀ (v2' : Int) (m : gh_M), J223 v2' m → gh_i (v3 + 1) ∧ K154 v2' (v3 + 1) m) ∧ ((¬ ((m 98 (((405 * v1) + (81 * (m 80 v1))) + v3)) = 0) → (0 ≤ v1 ∧ v1 < 20 ∧ gh_i (81 * (m 79 v1)) ∧ gh_i ((81 * (m 79 v1)) + v3) ∧ 0 ≤ (81 * (m 79 v1)) + v3 ∧ ((81 * (m 79 v1)) + v3) < 648))) ∧ (((¬ ((m 98 (((405 * v1) + (81 * (m 80 v1))) + v3)) = 0) ∧ ((m 97 ((81 * (m 79 v1)) + v3)) = 0)) → 0 ≤ v1 ∧ v1 < 20 ∧ gh_i (81 * (m 79 v1)) ∧ gh_i ((81 * (m 79 v1)) + v3) ∧ 0 ≤ (81 * (m 79 v1)) + v3 ∧ ((81 * (m 79 v1)) + v3) < 648 ∧ J223 1 (gh_u m 97 ((81 * (m 79 v1)) + v3) 1)) ∧ (¬ (¬ ((m 98 (((405 * v1) + (81 * (m 80 v1))) + v3)) = 0) ∧ ((m 97 ((81 * (m 79 v1)) + v3)) = 0)) → J223 v2 m))) ∧ (¬ (v3 < 81) → (v2 = 0 ∨ v2 = 1) ∧ Q v2 m))
def f_Model_goesOn_4 (v1 : Int) (Q : Int → gh_M → Prop) (K4 : Int → Int → gh_M → Prop) (v2 : Int) (v3 : Int) (m : gh_M) : Prop := 0 ≤ v1 ∧ v1 < 20 ∧ ((v3 < (m 80 v1) → gh_M2 (fun K17 v2 v4 m => f_Model_goesOn_17 v1 v3 K4 K17 v2 v4 m) v2 0 m) ∧ (¬ (v3 < (m 80 v1)) → gh_M2 (fun K154 v2 v3 m => f_Model_goesOn_154 v1 Q K154 v2 v3 m) v2 0 m))
def w_Model_goesOn (v1 : Int) (m : gh_M) (Q : Int → gh_M → Prop) : Prop := gh_M2 (fun K4 v2 v3 m => f_Model_goesOn_4 v1 Q K4 v2 v3 m) 0 0 m
theorem b_Model_goesOn_43 {E : gh_E} {v1 : Int} {v3 : Int} {v4 : Int} {v5 : Int} {K30 : Int → Int → gh_M → Prop} {Q : Int → gh_M → Prop} {K43 : Int → Int → gh_M → Prop} (d : Nat) (hK30 : ∀ (v2 : Int) (v5 : Int) (m : gh_M), gh_F m → K30 v2 v5 m → gh_T E (gh_yModel_goesOn.cls, prog_14_method_69_code, 7, false, 8) (d + 1) 30 [(0, 2, 63), (1, 0, v1), (2, 0, v2), (3, 0, v3), (4, 0, v4), (5, 0, v5)] [] m (fun r m1 => gh_F m1 ∧ Q r m1)) (hK : ∀ (v2 : Int) (v6 : Int) (m : gh_M), gh_F m → K43 v2 v6 m → gh_T E (gh_yModel_goesOn.cls, prog_14_method_69_code, 7, false, 8) (d + 1) 43 [(0, 2, 63), (1, 0, v1), (2, 0, v2), (3, 0, v3), (4, 0, v4), (5, 0, v5), (6, 0, v6)] [] m (fun r m1 => gh_F m1 ∧ Q r m1)) (v2 : Int) (v6 : Int) (m : gh_M) (hF : gh_F m) (h : f_Model_goesOn_43 v1 v3 v4 v5 K30 K43 v2 v6 m) : gh_T E (gh_yModel_goesOn.cls, prog_14_method_69_code, 7, false, 8) (d + 1) 43 [(0, 2, 63), (1, 0, v1), (2, 0, v2), (3, 0, v3), (4, 0, v4), (5, 0, v5), (6, 0, v6)] [] m (fun r m1 => gh_F m1 ∧ Q r m1) := by
  have hK43 := hK
  unfold f_Model_goesOn_43 at h
  refine gh_iload gd_Model_goesOn_43 6 rfl ?_
  refine gh_aload_n gd_Model_goesOn_45 0 rfl (by decide) ?_
  refine gf_63_50 gd_Model_goesOn_46 gh_k1417 hF rfl ?_
  obtain ⟨J134, hJ134, h⟩ := h
  have hJ134 : ∀ (v2' : Int) (m : gh_M), gh_F m → J134 v2' m → gh_T E (gh_yModel_goesOn.cls, prog_14_method_69_code, 7, false, 8) (d + 1) 134 [(0, 2, 63), (1, 0, v1), (2, 0, v2'), (3, 0, v3), (4, 0, v4), (5, 0, v5)] [] m (fun r m1 => gh_F m1 ∧ Q r m1) := by
    intro v2' m hF hj
    have h := hJ134 v2' m hj
    obtain ⟨q3607, h⟩ := h
    refine gh_iinc (L2 := [(5, 0, v5 + 1), (0, 2, 63), (1, 0, v1), (2, 0, v2'), (3, 0, v3), (4, 0, v4)]) gd_Model_goesOn_134 5 rfl q3607 (by decide) rfl ?_
    refine gh_goto (tgt := 30) gd_Model_goesOn_137 (by decide) ?_
    refine gh_pick (L2 := [(0, 2, 63), (1, 0, v1), (2, 0, v2'), (3, 0, v3), (4, 0, v4), (5, 0, v5 + 1)]) [1, 2, 3, 4, 5, 0] rfl ?_
    exact hK30 v2' (v5 + 1) m hF h
  obtain ⟨hk, hA, hB⟩ := h
  have k3611 : (¬ (v6 ≤ (m 63 50)) ∨ ((m 98 (((((405 * v1) + (81 * v3)) + (9 * v4)) + v5))) = 0)) → gh_T E (gh_yModel_goesOn.cls, prog_14_method_69_code, 7, false, 8) (d + 1) 134 [(0, 2, 63), (1, 0, v1), (2, 0, v2), (3, 0, v3), (4, 0, v4), (5, 0, v5), (6, 0, v6)] [] m (fun r m1 => gh_F m1 ∧ Q r m1) := by
    intro c
    have h := hA c
    refine gh_pick (L2 := [(0, 2, 63), (1, 0, v1), (2, 0, v2), (3, 0, v3), (4, 0, v4), (5, 0, v5)]) [0, 1, 2, 3, 4, 5] rfl ?_
    exact hJ134 v2 m hF h
  have k3612 : ¬ (¬ (v6 ≤ (m 63 50)) ∨ ((m 98 (((((405 * v1) + (81 * v3)) + (9 * v4)) + v5))) = 0)) → gh_T E (gh_yModel_goesOn.cls, prog_14_method_69_code, 7, false, 8) (d + 1) 69 [(0, 2, 63), (1, 0, v1), (2, 0, v2), (3, 0, v3), (4, 0, v4), (5, 0, v5), (6, 0, v6)] [] m (fun r m1 => gh_F m1 ∧ Q r m1) := by
    intro c
    have h := hB c
    refine gh_aload_n gd_Model_goesOn_69 0 rfl (by decide) ?_
    refine gf_63_54 gd_Model_goesOn_70 gh_k1421 hF ?_
    refine gh_iload_n gd_Model_goesOn_73 1 rfl ?_
    refine gh_iload_n gd_Model_goesOn_74 3 rfl ?_
    refine gh_iconst gd_Model_goesOn_75 (gh_r0 rfl) ?_
    obtain ⟨q3613, h⟩ := h
    refine gh_iadd gd_Model_goesOn_76 q3613 ?_
    refine gh_iload gd_Model_goesOn_77 4 rfl ?_
    refine gh_iload gd_Model_goesOn_79 6 rfl ?_
    obtain ⟨q3614, h⟩ := h
    refine cv_Model_begun (d := d) gd_Model_goesOn_81 gh_k1904 (Nat.le_of_ble_eq_true rfl) (gh_C.pe (e_Model_begun d v1 (v3 + 1) v4 v6 q3614) ?_)
    obtain ⟨q3615, h⟩ := h
    obtain ⟨q3616, h⟩ := h
    refine la_98 gd_Model_goesOn_84 hF q3615 q3616 rfl ?_
    obtain ⟨J128, hJ128, h⟩ := h
    have hJ128 : ∀ (v2' : Int) (m : gh_M), gh_F m → J128 v2' m → gh_T E (gh_yModel_goesOn.cls, prog_14_method_69_code, 7, false, 8) (d + 1) 128 [(0, 2, 63), (1, 0, v1), (2, 0, v2'), (3, 0, v3), (4, 0, v4), (5, 0, v5), (6, 0, v6)] [] m (fun r m1 => gh_F m1 ∧ Q r m1) := by
      intro v2' m hF hj
      have h := hJ128 v2' m hj
      obtain ⟨q3617, h⟩ := h
      refine gh_iinc (L2 := [(6, 0, v6 + 1), (0, 2, 63), (1, 0, v1), (2, 0, v2'), (3, 0, v3), (4, 0, v4), (5, 0, v5)]) gd_Model_goesOn_128 6 rfl q3617 (by decide) rfl ?_
      refine gh_goto (tgt := 43) gd_Model_goesOn_131 (by decide) ?_
      refine gh_pick (L2 := [(0, 2, 63), (1, 0, v1), (2, 0, v2'), (3, 0, v3), (4, 0, v4), (5, 0, v5), (6, 0, v6 + 1)]) [1, 2, 3, 4, 5, 6, 0] rfl ?_
      exact hK43 v2' (v6 + 1) m hF h
    obtain ⟨hk, hA, hB⟩ := h
    have k3623 : (¬ ((m 98 (((((405 * v1) + (81 * (v3 + 1))) + (9 * v4)) + v6))) = 0) ∨ ((x_Model_partMakes (m 81 ((4 * v1) + v3)) v5 v6 m) = 0)) → gh_T E (gh_yModel_goesOn.cls, prog_14_method_69_code, 7, false, 8) (d + 1) 128 [(0, 2, 63), (1, 0, v1), (2, 0, v2), (3, 0, v3), (4, 0, v4), (5, 0, v5), (6, 0, v6)] [] m (fun r m1 => gh_F m1 ∧ Q r m1) := by
      intro c
      have h := hA c
      exact hJ128 v2 m hF h
    have k3624 : ¬ (¬ ((m 98 (((((405 * v1) + (81 * (v3 + 1))) + (9 * v4)) + v6))) = 0) ∨ ((x_Model_partMakes (m 81 ((4 * v1) + v3)) v5 v6 m) = 0)) → gh_T E (gh_yModel_goesOn.cls, prog_14_method_69_code, 7, false, 8) (d + 1) 109 [(0, 2, 63), (1, 0, v1), (2, 0, v2), (3, 0, v3), (4, 0, v4), (5, 0, v5), (6, 0, v6)] [] m (fun r m1 => gh_F m1 ∧ Q r m1) := by
      intro c
      have h := hB c
      refine gh_aload_n gd_Model_goesOn_109 0 rfl (by decide) ?_
      refine gf_63_54 gd_Model_goesOn_110 gh_k1421 hF ?_
      refine gh_iload_n gd_Model_goesOn_113 1 rfl ?_
      refine gh_iload_n gd_Model_goesOn_114 3 rfl ?_
      refine gh_iconst gd_Model_goesOn_115 (gh_r0 rfl) ?_
      obtain ⟨q3625, h⟩ := h
      refine gh_iadd gd_Model_goesOn_116 q3625 ?_
      refine gh_iload gd_Model_goesOn_117 4 rfl ?_
      refine gh_iload gd_Model_goesOn_119 6 rfl ?_
      obtain ⟨q3626, h⟩ := h
      refine cv_Model_begun (d := d) gd_Model_goesOn_121 gh_k1904 (Nat.le_of_ble_eq_true rfl) (gh_C.pe (e_Model_begun d v1 (v3 + 1) v4 v6 q3626) ?_)
      refine gh_iconst gd_Model_goesOn_124 (gh_r0 rfl) ?_
      obtain ⟨q3627, h⟩ := h
      obtain ⟨q3628, h⟩ := h
      refine sa_98 gd_Model_goesOn_125 hF q3627 q3628 (by decide) (fun hF => ?_)
      refine gh_iconst gd_Model_goesOn_126 (gh_r0 rfl) ?_
      refine gh_istore_n (L2 := [(2, 0, 1), (0, 2, 63), (1, 0, v1), (3, 0, v3), (4, 0, v4), (5, 0, v5), (6, 0, v6)]) gd_Model_goesOn_127 (by decide) rfl ?_
      refine gh_pick (L2 := [(0, 2, 63), (1, 0, v1), (2, 0, 1), (3, 0, v3), (4, 0, v4), (5, 0, v5), (6, 0, v6)]) [1, 2, 0, 3, 4, 5, 6] rfl ?_
      exact hJ128 1 (gh_u m 98 (((((405 * v1) + (81 * (v3 + 1))) + (9 * v4)) + v6)) 1) hF h
    refine gh_zne (tgt := 128) gd_Model_goesOn_85 (by decide) (fun c3629 => ?_) (fun c3629 => ?_)
    · have hz : True := trivial
      have hk := hk c3629
      refine gh_aload_n gd_Model_goesOn_88 0 rfl (by decide) ?_
      refine gh_aload_n gd_Model_goesOn_89 0 rfl (by decide) ?_
      refine gf_63_34 gd_Model_goesOn_90 gh_k1401 hF ?_
      refine gh_iconst gd_Model_goesOn_93 (gh_r0 rfl) ?_
      refine gh_iload_n gd_Model_goesOn_94 1 rfl ?_
      obtain ⟨q3618, hk⟩ := hk
      refine gh_imul gd_Model_goesOn_95 q3618 ?_
      refine gh_iload_n gd_Model_goesOn_96 3 rfl ?_
      obtain ⟨q3619, hk⟩ := hk
      refine gh_iadd gd_Model_goesOn_97 q3619 ?_
      obtain ⟨q3620, hk⟩ := hk
      obtain ⟨q3621, hk⟩ := hk
      refine la_81 gd_Model_goesOn_98 hF q3620 q3621 rfl ?_
      refine gh_iload gd_Model_goesOn_99 5 rfl ?_
      refine gh_iload gd_Model_goesOn_101 6 rfl ?_
      have q3622 := hk
      refine cv_Model_partMakes (d := d) gd_Model_goesOn_103 gh_k1907 hF (Nat.le_of_ble_eq_true rfl) (gh_C.pe (e_Model_partMakes d (m 81 ((4 * v1) + v3)) v5 v6 hF q3622) ?_)
      refine gh_zeq (tgt := 128) gd_Model_goesOn_106 (by decide) (fun c3630 => ?_) (fun c3630 => ?_)
      · have hz : True := trivial
        exact k3623 (Or.inr c3630)
      · have hz : True := trivial
        exact k3624 (fun z => z.elim (fun w => w c3629) c3630)
    · have hz : True := trivial
      exact k3623 (Or.inl c3629)
  refine gh_jgt (tgt := 134) gd_Model_goesOn_49 (by decide) (fun c3631 => ?_) (fun c3631 => ?_)
  · have hz : True := trivial
    have hk := hk c3631
    refine gh_aload_n gd_Model_goesOn_52 0 rfl (by decide) ?_
    refine gf_63_54 gd_Model_goesOn_53 gh_k1421 hF ?_
    refine gh_iload_n gd_Model_goesOn_56 1 rfl ?_
    refine gh_iload_n gd_Model_goesOn_57 3 rfl ?_
    refine gh_iload gd_Model_goesOn_58 4 rfl ?_
    refine gh_iload gd_Model_goesOn_60 5 rfl ?_
    obtain ⟨q3608, hk⟩ := hk
    refine cv_Model_begun (d := d) gd_Model_goesOn_62 gh_k1904 (Nat.le_of_ble_eq_true rfl) (gh_C.pe (e_Model_begun d v1 v3 v4 v5 q3608) ?_)
    obtain ⟨q3609, hk⟩ := hk
    have q3610 := hk
    refine la_98 gd_Model_goesOn_65 hF q3609 q3610 rfl ?_
    refine gh_zeq (tgt := 134) gd_Model_goesOn_66 (by decide) (fun c3632 => ?_) (fun c3632 => ?_)
    · have hz : True := trivial
      exact k3611 (Or.inr c3632)
    · have hz : True := trivial
      exact k3612 (fun z => z.elim (fun w => w c3631) c3632)
  · have hz : True := trivial
    exact k3611 (Or.inl c3631)
theorem b_Model_goesOn_30 {E : gh_E} {v1 : Int} {v3 : Int} {v4 : Int} {K17 : Int → Int → gh_M → Prop} {Q : Int → gh_M → Prop} {K30 : Int → Int → gh_M → Prop} (d : Nat) (hK17 : ∀ (v2 : Int) (v4 : Int) (m : gh_M), gh_F m → K17 v2 v4 m → gh_T E (gh_yModel_goesOn.cls, prog_14_method_69_code, 7, false, 8) (d + 1) 17 [(0, 2, 63), (1, 0, v1), (2, 0, v2), (3, 0, v3), (4, 0, v4)] [] m (fun r m1 => gh_F m1 ∧ Q r m1)) (hK : ∀ (v2 : Int) (v5 : Int) (m : gh_M), gh_F m → K30 v2 v5 m → gh_T E (gh_yModel_goesOn.cls, prog_14_method_69_code, 7, false, 8) (d + 1) 30 [(0, 2, 63), (1, 0, v1), (2, 0, v2), (3, 0, v3), (4, 0, v4), (5, 0, v5)] [] m (fun r m1 => gh_F m1 ∧ Q r m1)) (v2 : Int) (v5 : Int) (m : gh_M) (hF : gh_F m) (h : f_Model_goesOn_30 v1 v3 v4 K17 K30 v2 v5 m) : gh_T E (gh_yModel_goesOn.cls, prog_14_method_69_code, 7, false, 8) (d + 1) 30 [(0, 2, 63), (1, 0, v1), (2, 0, v2), (3, 0, v3), (4, 0, v4), (5, 0, v5)] [] m (fun r m1 => gh_F m1 ∧ Q r m1) := by
  have hK30 := hK
  unfold f_Model_goesOn_30 at h
  refine gh_iload gd_Model_goesOn_30 5 rfl ?_
  refine gh_aload_n gd_Model_goesOn_32 0 rfl (by decide) ?_
  refine gf_63_50 gd_Model_goesOn_33 gh_k1417 hF rfl ?_
  obtain ⟨hA, hB⟩ := h
  refine gh_jgt (tgt := 140) gd_Model_goesOn_36 (by decide) (fun c3606 => ?_) (fun c3606 => ?_)
  · have h := hA c3606
    refine gh_iload gd_Model_goesOn_39 5 rfl ?_
    refine gh_istore (L2 := [(6, 0, v5), (0, 2, 63), (1, 0, v1), (2, 0, v2), (3, 0, v3), (4, 0, v4), (5, 0, v5)]) gd_Model_goesOn_41 (by decide) rfl ?_
    refine gh_pick (L2 := [(0, 2, 63), (1, 0, v1), (2, 0, v2), (3, 0, v3), (4, 0, v4), (5, 0, v5), (6, 0, v5)]) [1, 2, 3, 4, 5, 6, 0] rfl ?_
    exact gh_M2_sound (T := fun v2 v6 m => gh_T E (gh_yModel_goesOn.cls, prog_14_method_69_code, 7, false, 8) (d + 1) 43 [(0, 2, 63), (1, 0, v1), (2, 0, v2), (3, 0, v3), (4, 0, v4), (5, 0, v5), (6, 0, v6)] [] m (fun r m1 => gh_F m1 ∧ Q r m1)) (fun _ _ m => gh_F m) (fun K43 v2 v6 m hK hF h => b_Model_goesOn_43 d hK30 hK v2 v6 m hF h) v2 v5 m hF h
  · have h := hB c3606
    obtain ⟨q3633, h⟩ := h
    refine gh_iinc (L2 := [(4, 0, v4 + 1), (0, 2, 63), (1, 0, v1), (2, 0, v2), (3, 0, v3), (5, 0, v5)]) gd_Model_goesOn_140 4 rfl q3633 (by decide) rfl ?_
    refine gh_goto (tgt := 17) gd_Model_goesOn_143 (by decide) ?_
    refine gh_pick (L2 := [(0, 2, 63), (1, 0, v1), (2, 0, v2), (3, 0, v3), (4, 0, v4 + 1)]) [1, 2, 3, 4, 0] rfl ?_
    exact hK17 v2 (v4 + 1) m hF h
theorem b_Model_goesOn_17 {E : gh_E} {v1 : Int} {v3 : Int} {K4 : Int → Int → gh_M → Prop} {Q : Int → gh_M → Prop} {K17 : Int → Int → gh_M → Prop} (d : Nat) (hK4 : ∀ (v2 : Int) (v3 : Int) (m : gh_M), gh_F m → K4 v2 v3 m → gh_T E (gh_yModel_goesOn.cls, prog_14_method_69_code, 7, false, 8) (d + 1) 4 [(0, 2, 63), (1, 0, v1), (2, 0, v2), (3, 0, v3)] [] m (fun r m1 => gh_F m1 ∧ Q r m1)) (hK : ∀ (v2 : Int) (v4 : Int) (m : gh_M), gh_F m → K17 v2 v4 m → gh_T E (gh_yModel_goesOn.cls, prog_14_method_69_code, 7, false, 8) (d + 1) 17 [(0, 2, 63), (1, 0, v1), (2, 0, v2), (3, 0, v3), (4, 0, v4)] [] m (fun r m1 => gh_F m1 ∧ Q r m1)) (v2 : Int) (v4 : Int) (m : gh_M) (hF : gh_F m) (h : f_Model_goesOn_17 v1 v3 K4 K17 v2 v4 m) : gh_T E (gh_yModel_goesOn.cls, prog_14_method_69_code, 7, false, 8) (d + 1) 17 [(0, 2, 63), (1, 0, v1), (2, 0, v2), (3, 0, v3), (4, 0, v4)] [] m (fun r m1 => gh_F m1 ∧ Q r m1) := by
  have hK17 := hK
  unfold f_Model_goesOn_17 at h
  refine gh_iload gd_Model_goesOn_17 4 rfl ?_
  refine gh_aload_n gd_Model_goesOn_19 0 rfl (by decide) ?_
  refine gf_63_50 gd_Model_goesOn_20 gh_k1417 hF rfl ?_
  obtain ⟨hA, hB⟩ := h
  refine gh_jgt (tgt := 146) gd_Model_goesOn_23 (by decide) (fun c3605 => ?_) (fun c3605 => ?_)
  · have h := hA c3605
    refine gh_iload gd_Model_goesOn_26 4 rfl ?_
    refine gh_istore (L2 := [(5, 0, v4), (0, 2, 63), (1, 0, v1), (2, 0, v2), (3, 0, v3), (4, 0, v4)]) gd_Model_goesOn_28 (by decide) rfl ?_
    refine gh_pick (L2 := [(0, 2, 63), (1, 0, v1), (2, 0, v2), (3, 0, v3), (4, 0, v4), (5, 0, v4)]) [1, 2, 3, 4, 5, 0] rfl ?_
    exact gh_M2_sound (T := fun v2 v5 m => gh_T E (gh_yModel_goesOn.cls, prog_14_method_69_code, 7, false, 8) (d + 1) 30 [(0, 2, 63), (1, 0, v1), (2, 0, v2), (3, 0, v3), (4, 0, v4), (5, 0, v5)] [] m (fun r m1 => gh_F m1 ∧ Q r m1)) (fun _ _ m => gh_F m) (fun K30 v2 v5 m hK hF h => b_Model_goesOn_30 d hK17 hK v2 v5 m hF h) v2 v4 m hF h
  · have h := hB c3605
    obtain ⟨q3634, h⟩ := h
    refine gh_iinc (L2 := [(3, 0, v3 + 1), (0, 2, 63), (1, 0, v1), (2, 0, v2), (4, 0, v4)]) gd_Model_goesOn_146 3 rfl q3634 (by decide) rfl ?_
    refine gh_goto (tgt := 4) gd_Model_goesOn_149 (by decide) ?_
    refine gh_pick (L2 := [(0, 2, 63), (1, 0, v1), (2, 0, v2), (3, 0, v3 + 1)]) [1, 2, 3, 0] rfl ?_
    exact hK4 v2 (v3 + 1) m hF h
theorem b_Model_goesOn_154 {E : gh_E} {v1 : Int} {Q : Int → gh_M → Prop} {K154 : Int → Int → gh_M → Prop} (d : Nat) (hK : ∀ (v2 : Int) (v3 : Int) (m : gh_M), gh_F m → K154 v2 v3 m → gh_T E (gh_yModel_goesOn.cls, prog_14_method_69_code, 7, false, 8) (d + 1) 154 [(0, 2, 63), (1, 0, v1), (2, 0, v2), (3, 0, v3)] [] m (fun r m1 => gh_F m1 ∧ Q r m1)) (v2 : Int) (v3 : Int) (m : gh_M) (hF : gh_F m) (h : f_Model_goesOn_154 v1 Q K154 v2 v3 m) : gh_T E (gh_yModel_goesOn.cls, prog_14_method_69_code, 7, false, 8) (d + 1) 154 [(0, 2, 63), (1, 0, v1), (2, 0, v2), (3, 0, v3)] [] m (fun r m1 => gh_F m1 ∧ Q r m1) := by
  have hK154 := hK
  unfold f_Model_goesOn_154 at h
  refine gh_iload_n gd_Model_goesOn_154 3 rfl ?_
  refine gh_bipush gd_Model_goesOn_155 (by decide) (gh_r0 rfl) ?_
  obtain ⟨hA, hB⟩ := h
  refine gh_jge (tgt := 229) gd_Model_goesOn_157 (by decide) (fun c3635 => ?_) (fun c3635 => ?_)
  · have h := hA c3635
    refine gh_aload_n gd_Model_goesOn_160 0 rfl (by decide) ?_
    refine gf_63_54 gd_Model_goesOn_161 gh_k1421 hF ?_
    refine gh_sipush gd_Model_goesOn_164 (by decide) (gh_r0 rfl) ?_
    refine gh_iload_n gd_Model_goesOn_167 1 rfl ?_
    obtain ⟨q3636, h⟩ := h
    refine gh_imul gd_Model_goesOn_168 q3636 ?_
    refine gh_bipush gd_Model_goesOn_169 (by decide) (gh_r0 rfl) ?_
    refine gh_aload_n gd_Model_goesOn_171 0 rfl (by decide) ?_
    refine gf_63_33 gd_Model_goesOn_172 gh_k1400 hF ?_
    refine gh_iload_n gd_Model_goesOn_175 1 rfl ?_
    obtain ⟨q3637, h⟩ := h
    obtain ⟨q3638, h⟩ := h
    refine la_80 gd_Model_goesOn_176 hF q3637 q3638 rfl ?_
    obtain ⟨q3639, h⟩ := h
    refine gh_imul gd_Model_goesOn_177 q3639 ?_
    obtain ⟨q3640, h⟩ := h
    refine gh_iadd gd_Model_goesOn_178 q3640 ?_
    refine gh_iload_n gd_Model_goesOn_179 3 rfl ?_
    obtain ⟨q3641, h⟩ := h
    refine gh_iadd gd_Model_goesOn_180 q3641 ?_
    obtain ⟨q3642, h⟩ := h
    obtain ⟨q3643, h⟩ := h
    refine la_98 gd_Model_goesOn_181 hF q3642 q3643 rfl ?_
    obtain ⟨J223, hJ223, h⟩ := h
    have hJ223 : ∀ (v2' : Int) (m : gh_M), gh_F m → J223 v2' m → gh_T E (gh_yModel_goesOn.cls, prog_14_method_69_code, 7, false, 8) (d + 1) 223 [(0, 2, 63), (1, 0, v1), (2, 0, v2'), (3, 0, v3)] [] m (fun r m1 => gh_F m1 ∧ Q r m1) := by
      intro v2' m hF hj
      have h := hJ223 v2' m hj
      obtain ⟨q3644, h⟩ := h
      refine gh_iinc (L2 := [(3, 0, v3 + 1), (0, 2, 63), (1, 0, v1), (2, 0, v2')]) gd_Model_goesOn_223 3 rfl q3644 (by decide) rfl ?_
      refine gh_goto (tgt := 154) gd_Model_goesOn_226 (by decide) ?_
      refine gh_pick (L2 := [(0, 2, 63), (1, 0, v1), (2, 0, v2'), (3, 0, v3 + 1)]) [1, 2, 3, 0] rfl ?_
      exact hK154 v2' (v3 + 1) m hF h
    obtain ⟨hk, hA, hB⟩ := h
    have k3651 : (¬ ((m 98 (((405 * v1) + (81 * (m 80 v1))) + v3)) = 0) ∧ ((m 97 ((81 * (m 79 v1)) + v3)) = 0)) → gh_T E (gh_yModel_goesOn.cls, prog_14_method_69_code, 7, false, 8) (d + 1) 204 [(0, 2, 63), (1, 0, v1), (2, 0, v2), (3, 0, v3)] [] m (fun r m1 => gh_F m1 ∧ Q r m1) := by
      intro c
      have h := hA c
      refine gh_aload_n gd_Model_goesOn_204 0 rfl (by decide) ?_
      refine gf_63_53 gd_Model_goesOn_205 gh_k1420 hF ?_
      refine gh_bipush gd_Model_goesOn_208 (by decide) (gh_r0 rfl) ?_
      refine gh_aload_n gd_Model_goesOn_210 0 rfl (by decide) ?_
      refine gf_63_32 gd_Model_goesOn_211 gh_k1399 hF ?_
      refine gh_iload_n gd_Model_goesOn_214 1 rfl ?_
      obtain ⟨q3653, h⟩ := h
      obtain ⟨q3654, h⟩ := h
      refine la_79 gd_Model_goesOn_215 hF q3653 q3654 rfl ?_
      obtain ⟨q3655, h⟩ := h
      refine gh_imul gd_Model_goesOn_216 q3655 ?_
      refine gh_iload_n gd_Model_goesOn_217 3 rfl ?_
      obtain ⟨q3656, h⟩ := h
      refine gh_iadd gd_Model_goesOn_218 q3656 ?_
      refine gh_iconst gd_Model_goesOn_219 (gh_r0 rfl) ?_
      obtain ⟨q3657, h⟩ := h
      obtain ⟨q3658, h⟩ := h
      refine sa_97 gd_Model_goesOn_220 hF q3657 q3658 (by decide) (fun hF => ?_)
      refine gh_iconst gd_Model_goesOn_221 (gh_r0 rfl) ?_
      refine gh_istore_n (L2 := [(2, 0, 1), (0, 2, 63), (1, 0, v1), (3, 0, v3)]) gd_Model_goesOn_222 (by decide) rfl ?_
      refine gh_pick (L2 := [(0, 2, 63), (1, 0, v1), (2, 0, 1), (3, 0, v3)]) [1, 2, 0, 3] rfl ?_
      exact hJ223 1 (gh_u m 97 ((81 * (m 79 v1)) + v3) 1) hF h
    have k3652 : ¬ (¬ ((m 98 (((405 * v1) + (81 * (m 80 v1))) + v3)) = 0) ∧ ((m 97 ((81 * (m 79 v1)) + v3)) = 0)) → gh_T E (gh_yModel_goesOn.cls, prog_14_method_69_code, 7, false, 8) (d + 1) 223 [(0, 2, 63), (1, 0, v1), (2, 0, v2), (3, 0, v3)] [] m (fun r m1 => gh_F m1 ∧ Q r m1) := by
      intro c
      have h := hB c
      exact hJ223 v2 m hF h
    refine gh_zeq (tgt := 223) gd_Model_goesOn_182 (by decide) (fun c3659 => ?_) (fun c3659 => ?_)
    · have hz : True := trivial
      exact k3652 (fun z => z.1 c3659)
    · have hz : True := trivial
      have hk := hk c3659
      refine gh_aload_n gd_Model_goesOn_185 0 rfl (by decide) ?_
      refine gf_63_53 gd_Model_goesOn_186 gh_k1420 hF ?_
      refine gh_bipush gd_Model_goesOn_189 (by decide) (gh_r0 rfl) ?_
      refine gh_aload_n gd_Model_goesOn_191 0 rfl (by decide) ?_
      refine gf_63_32 gd_Model_goesOn_192 gh_k1399 hF ?_
      refine gh_iload_n gd_Model_goesOn_195 1 rfl ?_
      obtain ⟨q3645, hk⟩ := hk
      obtain ⟨q3646, hk⟩ := hk
      refine la_79 gd_Model_goesOn_196 hF q3645 q3646 rfl ?_
      obtain ⟨q3647, hk⟩ := hk
      refine gh_imul gd_Model_goesOn_197 q3647 ?_
      refine gh_iload_n gd_Model_goesOn_198 3 rfl ?_
      obtain ⟨q3648, hk⟩ := hk
      refine gh_iadd gd_Model_goesOn_199 q3648 ?_
      obtain ⟨q3649, hk⟩ := hk
      have q3650 := hk
      refine la_97 gd_Model_goesOn_200 hF q3649 q3650 rfl ?_
      refine gh_zne (tgt := 223) gd_Model_goesOn_201 (by decide) (fun c3660 => ?_) (fun c3660 => ?_)
      · have hz : True := trivial
        exact k3651 ⟨c3659, c3660⟩
      · have hz : True := trivial
        exact k3652 (fun z => c3660 z.2)
  · have h := hB c3635
    refine gh_iload_n gd_Model_goesOn_229 2 rfl ?_
    obtain ⟨q3661, h⟩ := h
    exact gh_ret8 rfl gd_Model_goesOn_230 q3661 ⟨hF, h⟩
theorem b_Model_goesOn_4 {E : gh_E} {v1 : Int} {Q : Int → gh_M → Prop} {K4 : Int → Int → gh_M → Prop} (d : Nat) (hK : ∀ (v2 : Int) (v3 : Int) (m : gh_M), gh_F m → K4 v2 v3 m → gh_T E (gh_yModel_goesOn.cls, prog_14_method_69_code, 7, false, 8) (d + 1) 4 [(0, 2, 63), (1, 0, v1), (2, 0, v2), (3, 0, v3)] [] m (fun r m1 => gh_F m1 ∧ Q r m1)) (v2 : Int) (v3 : Int) (m : gh_M) (hF : gh_F m) (h : f_Model_goesOn_4 v1 Q K4 v2 v3 m) : gh_T E (gh_yModel_goesOn.cls, prog_14_method_69_code, 7, false, 8) (d + 1) 4 [(0, 2, 63), (1, 0, v1), (2, 0, v2), (3, 0, v3)] [] m (fun r m1 => gh_F m1 ∧ Q r m1) := by
  have hK4 := hK
  unfold f_Model_goesOn_4 at h
  refine gh_iload_n gd_Model_goesOn_4 3 rfl ?_
  refine gh_aload_n gd_Model_goesOn_5 0 rfl (by decide) ?_
  refine gf_63_33 gd_Model_goesOn_6 gh_k1400 hF ?_
  refine gh_iload_n gd_Model_goesOn_9 1 rfl ?_
  obtain ⟨q3602, h⟩ := h
  obtain ⟨q3603, h⟩ := h
  refine la_80 gd_Model_goesOn_10 hF q3602 q3603 rfl ?_
  obtain ⟨hA, hB⟩ := h
  refine gh_jge (tgt := 152) gd_Model_goesOn_11 (by decide) (fun c3604 => ?_) (fun c3604 => ?_)
  · have h := hA c3604
    refine gh_iconst gd_Model_goesOn_14 (gh_r0 rfl) ?_
    refine gh_istore (L2 := [(4, 0, 0), (0, 2, 63), (1, 0, v1), (2, 0, v2), (3, 0, v3)]) gd_Model_goesOn_15 (by decide) rfl ?_
    refine gh_pick (L2 := [(0, 2, 63), (1, 0, v1), (2, 0, v2), (3, 0, v3), (4, 0, 0)]) [1, 2, 3, 4, 0] rfl ?_
    exact gh_M2_sound (T := fun v2 v4 m => gh_T E (gh_yModel_goesOn.cls, prog_14_method_69_code, 7, false, 8) (d + 1) 17 [(0, 2, 63), (1, 0, v1), (2, 0, v2), (3, 0, v3), (4, 0, v4)] [] m (fun r m1 => gh_F m1 ∧ Q r m1)) (fun _ _ m => gh_F m) (fun K17 v2 v4 m hK hF h => b_Model_goesOn_17 d hK4 hK v2 v4 m hF h) v2 0 m hF h
  · have h := hB c3604
    refine gh_iconst gd_Model_goesOn_152 (gh_r0 rfl) ?_
    refine gh_istore_n (L2 := [(3, 0, 0), (0, 2, 63), (1, 0, v1), (2, 0, v2)]) gd_Model_goesOn_153 (by decide) rfl ?_
    refine gh_pick (L2 := [(0, 2, 63), (1, 0, v1), (2, 0, v2), (3, 0, 0)]) [1, 2, 3, 0] rfl ?_
    exact gh_M2_sound (T := fun v2 v3 m => gh_T E (gh_yModel_goesOn.cls, prog_14_method_69_code, 7, false, 8) (d + 1) 154 [(0, 2, 63), (1, 0, v1), (2, 0, v2), (3, 0, v3)] [] m (fun r m1 => gh_F m1 ∧ Q r m1)) (fun _ _ m => gh_F m) (fun K154 v2 v3 m hK hF h => b_Model_goesOn_154 d hK v2 v3 m hF h) v2 0 m hF h
theorem s_Model_goesOn {E : gh_E} {m : gh_M} {Q : Int → gh_M → Prop} (d : Nat) (v1 : Int) (hF : gh_F m) (h : w_Model_goesOn v1 m Q) : gh_C E gh_yModel_goesOn prog_14_method_69_code 7 (some .boolean) 8 (d + 1) [(2, 63), (0, v1)] m (fun r m1 => gh_F m1 ∧ Q r m1) := by
  refine gh_enter2 (L := [(0, 2, 63), (1, 0, v1)]) (by decide +kernel) gh_rt8 (Nat.le_of_ble_eq_true rfl) rfl rfl ?_
  unfold w_Model_goesOn at h
  refine gh_iconst gd_Model_goesOn_0 (gh_r0 rfl) ?_
  refine gh_istore_n (L2 := [(2, 0, 0), (0, 2, 63), (1, 0, v1)]) gd_Model_goesOn_1 (by decide) rfl ?_
  refine gh_iconst gd_Model_goesOn_2 (gh_r0 rfl) ?_
  refine gh_istore_n (L2 := [(3, 0, 0), (2, 0, 0), (0, 2, 63), (1, 0, v1)]) gd_Model_goesOn_3 (by decide) rfl ?_
  refine gh_pick (L2 := [(0, 2, 63), (1, 0, v1), (2, 0, 0), (3, 0, 0)]) [2, 3, 1, 0] rfl ?_
  exact gh_M2_sound (T := fun v2 v3 m => gh_T E (gh_yModel_goesOn.cls, prog_14_method_69_code, 7, false, 8) (d + 1) 4 [(0, 2, 63), (1, 0, v1), (2, 0, v2), (3, 0, v3)] [] m (fun r m1 => gh_F m1 ∧ Q r m1)) (fun _ _ m => gh_F m) (fun K4 v2 v3 m hK hF h => b_Model_goesOn_4 d hK v2 v3 m hF h) 0 0 m hF h
def w_Model_stand (v1 : Int) (v2 : Int) (v3 : Int) (m : gh_M) (Q : Int → gh_M → Prop) : Prop := gh_i (9 * v1) ∧ gh_i ((9 * v1) + v2) ∧ 0 ≤ (9 * v1) + v2 ∧ ((9 * v1) + v2) < 72 ∧ gh_i (9 * v1) ∧ gh_i ((9 * v1) + v2) ∧ gh_i (9 * v1) ∧ gh_i ((9 * v1) + v2) ∧ 0 ≤ (9 * v1) + v2 ∧ ((9 * v1) + v2) < 72 ∧ 0 ≤ (9 * v1) + v2 ∧ ((9 * v1) + v2) < 72 ∧ Q 0 (gh_u (gh_u m 99 ((9 * v1) + v2) 1) 100 ((9 * v1) + v2) (if (¬ ((m 100 ((9 * v1) + v2)) = 0) ∨ (¬ (v3 = 0))) then (1:Int) else 0))
theorem s_Model_stand {E : gh_E} {m : gh_M} {Q : Int → gh_M → Prop} (d : Nat) (v1 : Int) (v2 : Int) (v3 : Int) (hF : gh_F m) (h : w_Model_stand v1 v2 v3 m Q) : gh_C E gh_yModel_stand prog_14_method_70_code 4 none 9 (d + 0) [(2, 63), (0, v1), (0, v2), (0, v3)] m (fun r m1 => gh_F m1 ∧ Q r m1) := by
  refine gh_enter2 (L := [(0, 2, 63), (1, 0, v1), (2, 0, v2), (3, 0, v3)]) (by decide +kernel) gh_rt9 (Nat.le_of_ble_eq_true rfl) rfl rfl ?_
  unfold w_Model_stand at h
  refine gh_aload_n gd_Model_stand_0 0 rfl (by decide) ?_
  refine gf_63_55 gd_Model_stand_1 gh_k1422 hF ?_
  refine gh_bipush gd_Model_stand_4 (by decide) (gh_r0 rfl) ?_
  refine gh_iload_n gd_Model_stand_6 1 rfl ?_
  obtain ⟨q3662, h⟩ := h
  refine gh_imul gd_Model_stand_7 q3662 ?_
  refine gh_iload_n gd_Model_stand_8 2 rfl ?_
  obtain ⟨q3663, h⟩ := h
  refine gh_iadd gd_Model_stand_9 q3663 ?_
  refine gh_iconst gd_Model_stand_10 (gh_r0 rfl) ?_
  obtain ⟨q3664, h⟩ := h
  obtain ⟨q3665, h⟩ := h
  refine sa_99 gd_Model_stand_11 hF q3664 q3665 (by decide) (fun hF => ?_)
  refine gh_aload_n gd_Model_stand_12 0 rfl (by decide) ?_
  refine gf_63_56 gd_Model_stand_13 gh_k1423 hF ?_
  refine gh_bipush gd_Model_stand_16 (by decide) (gh_r0 rfl) ?_
  refine gh_iload_n gd_Model_stand_18 1 rfl ?_
  obtain ⟨q3666, h⟩ := h
  refine gh_imul gd_Model_stand_19 q3666 ?_
  refine gh_iload_n gd_Model_stand_20 2 rfl ?_
  obtain ⟨q3667, h⟩ := h
  refine gh_iadd gd_Model_stand_21 q3667 ?_
  refine gh_aload_n gd_Model_stand_22 0 rfl (by decide) ?_
  refine gf_63_56 gd_Model_stand_23 gh_k1423 hF ?_
  refine gh_bipush gd_Model_stand_26 (by decide) (gh_r0 rfl) ?_
  refine gh_iload_n gd_Model_stand_28 1 rfl ?_
  obtain ⟨q3668, h⟩ := h
  refine gh_imul gd_Model_stand_29 q3668 ?_
  refine gh_iload_n gd_Model_stand_30 2 rfl ?_
  obtain ⟨q3669, h⟩ := h
  refine gh_iadd gd_Model_stand_31 q3669 ?_
  obtain ⟨q3670, h⟩ := h
  obtain ⟨q3671, h⟩ := h
  refine la_100 gd_Model_stand_32 hF q3670 q3671 (gh_u_a (by decide)) ?_
  have k3672 : ∀ x3673 : Int, x3673 = (if (¬ ((m 100 ((9 * v1) + v2)) = 0) ∨ (¬ (v3 = 0))) then (1:Int) else 0) → gh_T E (gh_yModel_stand.cls, prog_14_method_70_code, 4, false, 9) (d + 0) 45 [(0, 2, 63), (1, 0, v1), (2, 0, v2), (3, 0, v3)] [(0, x3673), (0, (9 * v1) + v2), (2, 100)] (gh_u m 99 ((9 * v1) + v2) 1) (fun r m1 => gh_F m1 ∧ Q r m1) := by
    rintro _ rfl
    obtain ⟨q3674, h⟩ := h
    obtain ⟨q3675, h⟩ := h
    refine sa_100 gd_Model_stand_45 hF q3674 q3675 gh_ib01 (fun hF => ?_)
    exact gh_ret9 rfl gd_Model_stand_46 ⟨hF, h⟩
  refine gh_zne (tgt := 40) gd_Model_stand_33 (by decide) (fun c3676 => ?_) (fun c3676 => ?_)
  · have hz : True := trivial
    refine gh_iload_n gd_Model_stand_36 3 rfl ?_
    refine gh_zeq (tgt := 44) gd_Model_stand_37 (by decide) (fun c3677 => ?_) (fun c3677 => ?_)
    · have hz : True := trivial
      refine gh_iconst gd_Model_stand_44 (gh_r0 rfl) ?_
      exact k3672 _ (if_neg (c := (¬ ((m 100 ((9 * v1) + v2)) = 0) ∨ (¬ (v3 = 0)))) (fun z => z.elim (fun w => w c3676) (not_not_intro c3677))).symm
    · have hz : True := trivial
      refine gh_iconst gd_Model_stand_40 (gh_r0 rfl) ?_
      refine gh_goto (tgt := 45) gd_Model_stand_41 (by decide) ?_
      exact k3672 _ (if_pos (c := (¬ ((m 100 ((9 * v1) + v2)) = 0) ∨ (¬ (v3 = 0)))) (Or.inr c3677)).symm
  · have hz : True := trivial
    refine gh_iconst gd_Model_stand_40 (gh_r0 rfl) ?_
    refine gh_goto (tgt := 45) gd_Model_stand_41 (by decide) ?_
    exact k3672 _ (if_pos (c := (¬ ((m 100 ((9 * v1) + v2)) = 0) ∨ (¬ (v3 = 0)))) (Or.inl c3676)).symm
def f_Model_findStanding_126 (v1 : Int) (v2 : Int) (v3 : Int) (v4 : Int) (v5 : Int) (K93 : Int → gh_M → Prop) (K126 : Int → gh_M → Prop) (v6 : Int) (m : gh_M) : Prop := ∃ J227 : gh_M → Prop, (∀ (m : gh_M), J227 m → gh_i (v5 + 1) ∧ K93 (v5 + 1) m) ∧ (((v6 ≤ (m 63 50)) → (0 ≤ v3 ∧ v3 < 20 ∧ gh_i (9 * (m 79 v3)) ∧ gh_i ((9 * (m 79 v3)) + v5) ∧ 0 ≤ (9 * (m 79 v3)) + v5 ∧ ((9 * (m 79 v3)) + v5) < 72))) ∧ (((¬ (v6 ≤ (m 63 50)) ∨ ((m 99 ((9 * (m 79 v3)) + v5)) = 0)) → J227 m) ∧ (¬ (¬ (v6 ≤ (m 63 50)) ∨ ((m 99 ((9 * (m 79 v3)) + v5)) = 0)) → (gh_i (405 * v3) ∧ gh_i (81 * v4) ∧ gh_i ((405 * v3) + (81 * v4)) ∧ gh_i (9 * v5) ∧ gh_i (((405 * v3) + (81 * v4)) + (9 * v5)) ∧ gh_i ((((405 * v3) + (81 * v4)) + (9 * v5)) + v6)) ∧ 0 ≤ ((((405 * v3) + (81 * v4)) + (9 * v5)) + v6) ∧ (((((405 * v3) + (81 * v4)) + (9 * v5)) + v6)) < 8100 ∧ ∃ J221 : gh_M → Prop, (∀ (m : gh_M), J221 m → gh_i (v6 + 1) ∧ K126 (v6 + 1) m) ∧ (((m 98 (((((405 * v3) + (81 * v4)) + (9 * v5)) + v6))) = 0 → J221 m) ∧ (¬ ((m 98 (((((405 * v3) + (81 * v4)) + (9 * v5)) + v6))) = 0) → 0 ≤ v2 ∧ v2 < 80 ∧ gh_i ((-1) - (m 81 v2)) ∧ 0 ≤ v3 ∧ v3 < 20 ∧ gh_i (9 * (m 79 v3)) ∧ gh_i ((9 * (m 79 v3)) + v5) ∧ 0 ≤ (9 * (m 79 v3)) + v5 ∧ ((9 * (m 79 v3)) + v5) < 72 ∧ ((¬ ((m 100 ((9 * (m 79 v3)) + v5)) = 0) → (0 ≤ v3 ∧ v3 < 20))) ∧ w_Model_stand ((-1) - (m 81 v2)) v6 (if (¬ ((m 100 ((9 * (m 79 v3)) + v5)) = 0) ∧ (¬ ((m 83 v3) = 0))) then (1:Int) else 0) m (fun _ m3732 => J221 m3732)))))
def f_Model_findStanding_93 (v1 : Int) (v2 : Int) (v3 : Int) (v4 : Int) (K71 : Int → gh_M → Prop) (K93 : Int → gh_M → Prop) (v5 : Int) (m : gh_M) : Prop := ∃ J233 : gh_M → Prop, (∀ (m : gh_M), J233 m → gh_i (v2 + 1) ∧ K71 (v2 + 1) m) ∧ (((v5 ≤ (m 63 50)) → (0 ≤ v3 ∧ v3 < 20 ∧ ((v4 < (m 80 v3)) → (0 ≤ v2 ∧ v2 < 80))))) ∧ ((((v5 ≤ (m 63 50)) ∧ ((v4 < (m 80 v3)) ∧ ((m 81 v2) < 0))) → gh_M1 (fun K126 v6 m => f_Model_findStanding_126 v1 v2 v3 v4 v5 K93 K126 v6 m) v5 m) ∧ (¬ ((v5 ≤ (m 63 50)) ∧ ((v4 < (m 80 v3)) ∧ ((m 81 v2) < 0))) → J233 m))
def f_Model_findStanding_71 (v1 : Int) (K58 : Int → gh_M → Prop) (K71 : Int → gh_M → Prop) (v2 : Int) (m : gh_M) : Prop := gh_i (4 * (m 63 27)) ∧ ((v2 < (4 * (m 63 27)) → 0 ≤ v2 ∧ ∀ v3 : Int, v3 = v2 / 4 → 0 ≤ v2 ∧ ∀ v4 : Int, v4 = v2 % 4 → gh_M1 (fun K93 v5 m => f_Model_findStanding_93 v1 v2 v3 v4 K71 K93 v5 m) 0 m) ∧ (¬ (v2 < (4 * (m 63 27))) → gh_i (v1 + 1) ∧ K58 (v1 + 1) m))
def f_Model_findStanding_58 (Q : Int → gh_M → Prop) (K58 : Int → gh_M → Prop) (v1 : Int) (m : gh_M) : Prop := gh_i (9 * (m 63 26)) ∧ ((v1 < (9 * (m 63 26)) → gh_M1 (fun K71 v2 m => f_Model_findStanding_71 v1 K58 K71 v2 m) 0 m) ∧ (¬ (v1 < (9 * (m 63 26))) → Q 0 m))
def f_Model_findStanding_2 (Q : Int → gh_M → Prop) (K2 : Int → gh_M → Prop) (v1 : Int) (m : gh_M) : Prop := ((v1 < 72 → 0 ≤ v1 ∧ v1 < 72 ∧ 0 ≤ v1 ∧ v1 < 72 ∧ gh_i (v1 + 1) ∧ K2 (v1 + 1) (gh_u (gh_u m 99 v1 (if (v1 = 0) then (1:Int) else 0)) 100 v1 (if ((v1 = 0) ∧ ((m 82 0) < 1000000000)) then (1:Int) else 0))) ∧ (¬ (v1 < 72) → gh_M1 (fun K58 v1 m => f_Model_findStanding_58 Q K58 v1 m) 0 m))
def w_Model_findStanding (m : gh_M) (Q : Int → gh_M → Prop) : Prop := gh_M1 (fun K2 v1 m => f_Model_findStanding_2 Q K2 v1 m) 0 m
theorem b_Model_findStanding_126 {E : gh_E} {v1 : Int} {v2 : Int} {v3 : Int} {v4 : Int} {v5 : Int} {K93 : Int → gh_M → Prop} {Q : Int → gh_M → Prop} {K126 : Int → gh_M → Prop} (d : Nat) (hK93 : ∀ (v5 : Int) (m : gh_M), gh_F m → K93 v5 m → gh_T E (gh_yModel_findStanding.cls, prog_14_method_71_code, 7, false, 9) (d + 1) 93 [(0, 2, 63), (1, 0, v1), (2, 0, v2), (3, 0, v3), (4, 0, v4), (5, 0, v5)] [] m (fun r m1 => gh_F m1 ∧ Q r m1)) (hK : ∀ (v6 : Int) (m : gh_M), gh_F m → K126 v6 m → gh_T E (gh_yModel_findStanding.cls, prog_14_method_71_code, 7, false, 9) (d + 1) 126 [(0, 2, 63), (1, 0, v1), (2, 0, v2), (3, 0, v3), (4, 0, v4), (5, 0, v5), (6, 0, v6)] [] m (fun r m1 => gh_F m1 ∧ Q r m1)) (v6 : Int) (m : gh_M) (hF : gh_F m) (h : f_Model_findStanding_126 v1 v2 v3 v4 v5 K93 K126 v6 m) : gh_T E (gh_yModel_findStanding.cls, prog_14_method_71_code, 7, false, 9) (d + 1) 126 [(0, 2, 63), (1, 0, v1), (2, 0, v2), (3, 0, v3), (4, 0, v4), (5, 0, v5), (6, 0, v6)] [] m (fun r m1 => gh_F m1 ∧ Q r m1) := by
  have hK126 := hK
  unfold f_Model_findStanding_126 at h
  refine gh_iload gd_Model_findStanding_126 6 rfl ?_
  refine gh_aload_n gd_Model_findStanding_128 0 rfl (by decide) ?_
  refine gf_63_50 gd_Model_findStanding_129 gh_k1417 hF rfl ?_
  obtain ⟨J227, hJ227, h⟩ := h
  have hJ227 : ∀ (m : gh_M), gh_F m → J227 m → gh_T E (gh_yModel_findStanding.cls, prog_14_method_71_code, 7, false, 9) (d + 1) 227 [(0, 2, 63), (1, 0, v1), (2, 0, v2), (3, 0, v3), (4, 0, v4), (5, 0, v5)] [] m (fun r m1 => gh_F m1 ∧ Q r m1) := by
    intro m hF hj
    have h := hJ227 m hj
    obtain ⟨q3704, h⟩ := h
    refine gh_iinc (L2 := [(5, 0, v5 + 1), (0, 2, 63), (1, 0, v1), (2, 0, v2), (3, 0, v3), (4, 0, v4)]) gd_Model_findStanding_227 5 rfl q3704 (by decide) rfl ?_
    refine gh_goto (tgt := 93) gd_Model_findStanding_230 (by decide) ?_
    refine gh_pick (L2 := [(0, 2, 63), (1, 0, v1), (2, 0, v2), (3, 0, v3), (4, 0, v4), (5, 0, v5 + 1)]) [1, 2, 3, 4, 5, 0] rfl ?_
    exact hK93 (v5 + 1) m hF h
  obtain ⟨hk, hA, hB⟩ := h
  have k3711 : (¬ (v6 ≤ (m 63 50)) ∨ ((m 99 ((9 * (m 79 v3)) + v5)) = 0)) → gh_T E (gh_yModel_findStanding.cls, prog_14_method_71_code, 7, false, 9) (d + 1) 227 [(0, 2, 63), (1, 0, v1), (2, 0, v2), (3, 0, v3), (4, 0, v4), (5, 0, v5), (6, 0, v6)] [] m (fun r m1 => gh_F m1 ∧ Q r m1) := by
    intro c
    have h := hA c
    refine gh_pick (L2 := [(0, 2, 63), (1, 0, v1), (2, 0, v2), (3, 0, v3), (4, 0, v4), (5, 0, v5)]) [0, 1, 2, 3, 4, 5] rfl ?_
    exact hJ227 m hF h
  have k3712 : ¬ (¬ (v6 ≤ (m 63 50)) ∨ ((m 99 ((9 * (m 79 v3)) + v5)) = 0)) → gh_T E (gh_yModel_findStanding.cls, prog_14_method_71_code, 7, false, 9) (d + 1) 155 [(0, 2, 63), (1, 0, v1), (2, 0, v2), (3, 0, v3), (4, 0, v4), (5, 0, v5), (6, 0, v6)] [] m (fun r m1 => gh_F m1 ∧ Q r m1) := by
    intro c
    have h := hB c
    refine gh_aload_n gd_Model_findStanding_155 0 rfl (by decide) ?_
    refine gf_63_54 gd_Model_findStanding_156 gh_k1421 hF ?_
    refine gh_iload_n gd_Model_findStanding_159 3 rfl ?_
    refine gh_iload gd_Model_findStanding_160 4 rfl ?_
    refine gh_iload gd_Model_findStanding_162 5 rfl ?_
    refine gh_iload gd_Model_findStanding_164 6 rfl ?_
    obtain ⟨q3713, h⟩ := h
    refine cv_Model_begun (d := d) gd_Model_findStanding_166 gh_k1904 (Nat.le_of_ble_eq_true rfl) (gh_C.pe (e_Model_begun d v3 v4 v5 v6 q3713) ?_)
    obtain ⟨q3714, h⟩ := h
    obtain ⟨q3715, h⟩ := h
    refine la_98 gd_Model_findStanding_169 hF q3714 q3715 rfl ?_
    obtain ⟨J221, hJ221, h⟩ := h
    have hJ221 : ∀ (m : gh_M), gh_F m → J221 m → gh_T E (gh_yModel_findStanding.cls, prog_14_method_71_code, 7, false, 9) (d + 1) 221 [(0, 2, 63), (1, 0, v1), (2, 0, v2), (3, 0, v3), (4, 0, v4), (5, 0, v5), (6, 0, v6)] [] m (fun r m1 => gh_F m1 ∧ Q r m1) := by
      intro m hF hj
      have h := hJ221 m hj
      obtain ⟨q3716, h⟩ := h
      refine gh_iinc (L2 := [(6, 0, v6 + 1), (0, 2, 63), (1, 0, v1), (2, 0, v2), (3, 0, v3), (4, 0, v4), (5, 0, v5)]) gd_Model_findStanding_221 6 rfl q3716 (by decide) rfl ?_
      refine gh_goto (tgt := 126) gd_Model_findStanding_224 (by decide) ?_
      refine gh_pick (L2 := [(0, 2, 63), (1, 0, v1), (2, 0, v2), (3, 0, v3), (4, 0, v4), (5, 0, v5), (6, 0, v6 + 1)]) [1, 2, 3, 4, 5, 6, 0] rfl ?_
      exact hK126 (v6 + 1) m hF h
    obtain ⟨hA, hB⟩ := h
    refine gh_zeq (tgt := 221) gd_Model_findStanding_170 (by decide) (fun c3717 => ?_) (fun c3717 => ?_)
    · have h := hA c3717
      exact hJ221 m hF h
    · have h := hB c3717
      refine gh_aload_n gd_Model_findStanding_173 0 rfl (by decide) ?_
      refine gh_iconst gd_Model_findStanding_174 (gh_r0 rfl) ?_
      refine gh_aload_n gd_Model_findStanding_175 0 rfl (by decide) ?_
      refine gf_63_34 gd_Model_findStanding_176 gh_k1401 hF ?_
      refine gh_iload_n gd_Model_findStanding_179 2 rfl ?_
      obtain ⟨q3718, h⟩ := h
      obtain ⟨q3719, h⟩ := h
      refine la_81 gd_Model_findStanding_180 hF q3718 q3719 rfl ?_
      obtain ⟨q3720, h⟩ := h
      refine gh_isub gd_Model_findStanding_181 q3720 ?_
      refine gh_iload gd_Model_findStanding_182 6 rfl ?_
      refine gh_aload_n gd_Model_findStanding_184 0 rfl (by decide) ?_
      refine gf_63_56 gd_Model_findStanding_185 gh_k1423 hF ?_
      refine gh_bipush gd_Model_findStanding_188 (by decide) (gh_r0 rfl) ?_
      refine gh_aload_n gd_Model_findStanding_190 0 rfl (by decide) ?_
      refine gf_63_32 gd_Model_findStanding_191 gh_k1399 hF ?_
      refine gh_iload_n gd_Model_findStanding_194 3 rfl ?_
      obtain ⟨q3721, h⟩ := h
      obtain ⟨q3722, h⟩ := h
      refine la_79 gd_Model_findStanding_195 hF q3721 q3722 rfl ?_
      obtain ⟨q3723, h⟩ := h
      refine gh_imul gd_Model_findStanding_196 q3723 ?_
      refine gh_iload gd_Model_findStanding_197 5 rfl ?_
      obtain ⟨q3724, h⟩ := h
      refine gh_iadd gd_Model_findStanding_199 q3724 ?_
      obtain ⟨q3725, h⟩ := h
      obtain ⟨q3726, h⟩ := h
      refine la_100 gd_Model_findStanding_200 hF q3725 q3726 rfl ?_
      obtain ⟨hk, h⟩ := h
      have k3729 : ∀ x3730 : Int, x3730 = (if (¬ ((m 100 ((9 * (m 79 v3)) + v5)) = 0) ∧ (¬ ((m 83 v3) = 0))) then (1:Int) else 0) → gh_T E (gh_yModel_findStanding.cls, prog_14_method_71_code, 7, false, 9) (d + 1) 218 [(0, 2, 63), (1, 0, v1), (2, 0, v2), (3, 0, v3), (4, 0, v4), (5, 0, v5), (6, 0, v6)] [(0, x3730), (0, v6), (0, (-1) - (m 81 v2)), (2, 63)] m (fun r m1 => gh_F m1 ∧ Q r m1) := by
        rintro _ rfl
        refine cv_Model_stand (d := d) gd_Model_findStanding_218 gh_k1915 hF (Nat.le_of_ble_eq_true rfl) (gh_C.mono (s_Model_stand d ((-1) - (m 81 v2)) v6 (if (¬ ((m 100 ((9 * (m 79 v3)) + v5)) = 0) ∧ (¬ ((m 83 v3) = 0))) then (1:Int) else 0) hF h) (fun r3731 m3732 hq => ?_))
        obtain ⟨hF, h⟩ := hq
        exact hJ221 m3732 hF h
      refine gh_zeq (tgt := 217) gd_Model_findStanding_201 (by decide) (fun c3733 => ?_) (fun c3733 => ?_)
      · have hz : True := trivial
        refine gh_iconst gd_Model_findStanding_217 (gh_r0 rfl) ?_
        exact k3729 _ (if_neg (c := (¬ ((m 100 ((9 * (m 79 v3)) + v5)) = 0) ∧ (¬ ((m 83 v3) = 0)))) (fun z => z.1 c3733)).symm
      · have hz : True := trivial
        have hk := hk c3733
        refine gh_aload_n gd_Model_findStanding_204 0 rfl (by decide) ?_
        refine gf_63_36 gd_Model_findStanding_205 gh_k1403 hF ?_
        refine gh_iload_n gd_Model_findStanding_208 3 rfl ?_
        obtain ⟨q3727, hk⟩ := hk
        have q3728 := hk
        refine la_83 gd_Model_findStanding_209 hF q3727 q3728 rfl ?_
        refine gh_zeq (tgt := 217) gd_Model_findStanding_210 (by decide) (fun c3734 => ?_) (fun c3734 => ?_)
        · have hz : True := trivial
          refine gh_iconst gd_Model_findStanding_217 (gh_r0 rfl) ?_
          exact k3729 _ (if_neg (c := (¬ ((m 100 ((9 * (m 79 v3)) + v5)) = 0) ∧ (¬ ((m 83 v3) = 0)))) (fun z => (not_not_intro c3734) z.2)).symm
        · have hz : True := trivial
          refine gh_iconst gd_Model_findStanding_213 (gh_r0 rfl) ?_
          refine gh_goto (tgt := 218) gd_Model_findStanding_214 (by decide) ?_
          exact k3729 _ (if_pos (c := (¬ ((m 100 ((9 * (m 79 v3)) + v5)) = 0) ∧ (¬ ((m 83 v3) = 0)))) ⟨c3733, c3734⟩).symm
  refine gh_jgt (tgt := 227) gd_Model_findStanding_132 (by decide) (fun c3735 => ?_) (fun c3735 => ?_)
  · have hz : True := trivial
    have hk := hk c3735
    refine gh_aload_n gd_Model_findStanding_135 0 rfl (by decide) ?_
    refine gf_63_55 gd_Model_findStanding_136 gh_k1422 hF ?_
    refine gh_bipush gd_Model_findStanding_139 (by decide) (gh_r0 rfl) ?_
    refine gh_aload_n gd_Model_findStanding_141 0 rfl (by decide) ?_
    refine gf_63_32 gd_Model_findStanding_142 gh_k1399 hF ?_
    refine gh_iload_n gd_Model_findStanding_145 3 rfl ?_
    obtain ⟨q3705, hk⟩ := hk
    obtain ⟨q3706, hk⟩ := hk
    refine la_79 gd_Model_findStanding_146 hF q3705 q3706 rfl ?_
    obtain ⟨q3707, hk⟩ := hk
    refine gh_imul gd_Model_findStanding_147 q3707 ?_
    refine gh_iload gd_Model_findStanding_148 5 rfl ?_
    obtain ⟨q3708, hk⟩ := hk
    refine gh_iadd gd_Model_findStanding_150 q3708 ?_
    obtain ⟨q3709, hk⟩ := hk
    have q3710 := hk
    refine la_99 gd_Model_findStanding_151 hF q3709 q3710 rfl ?_
    refine gh_zeq (tgt := 227) gd_Model_findStanding_152 (by decide) (fun c3736 => ?_) (fun c3736 => ?_)
    · have hz : True := trivial
      exact k3711 (Or.inr c3736)
    · have hz : True := trivial
      exact k3712 (fun z => z.elim (fun w => w c3735) c3736)
  · have hz : True := trivial
    exact k3711 (Or.inl c3735)
theorem b_Model_findStanding_93 {E : gh_E} {v1 : Int} {v2 : Int} {v3 : Int} {v4 : Int} {K71 : Int → gh_M → Prop} {Q : Int → gh_M → Prop} {K93 : Int → gh_M → Prop} (d : Nat) (hK71 : ∀ (v2 : Int) (m : gh_M), gh_F m → K71 v2 m → gh_T E (gh_yModel_findStanding.cls, prog_14_method_71_code, 7, false, 9) (d + 1) 71 [(0, 2, 63), (1, 0, v1), (2, 0, v2)] [] m (fun r m1 => gh_F m1 ∧ Q r m1)) (hK : ∀ (v5 : Int) (m : gh_M), gh_F m → K93 v5 m → gh_T E (gh_yModel_findStanding.cls, prog_14_method_71_code, 7, false, 9) (d + 1) 93 [(0, 2, 63), (1, 0, v1), (2, 0, v2), (3, 0, v3), (4, 0, v4), (5, 0, v5)] [] m (fun r m1 => gh_F m1 ∧ Q r m1)) (v5 : Int) (m : gh_M) (hF : gh_F m) (h : f_Model_findStanding_93 v1 v2 v3 v4 K71 K93 v5 m) : gh_T E (gh_yModel_findStanding.cls, prog_14_method_71_code, 7, false, 9) (d + 1) 93 [(0, 2, 63), (1, 0, v1), (2, 0, v2), (3, 0, v3), (4, 0, v4), (5, 0, v5)] [] m (fun r m1 => gh_F m1 ∧ Q r m1) := by
  have hK93 := hK
  unfold f_Model_findStanding_93 at h
  refine gh_iload gd_Model_findStanding_93 5 rfl ?_
  refine gh_aload_n gd_Model_findStanding_95 0 rfl (by decide) ?_
  refine gf_63_50 gd_Model_findStanding_96 gh_k1417 hF rfl ?_
  obtain ⟨J233, hJ233, h⟩ := h
  have hJ233 : ∀ (m : gh_M), gh_F m → J233 m → gh_T E (gh_yModel_findStanding.cls, prog_14_method_71_code, 7, false, 9) (d + 1) 233 [(0, 2, 63), (1, 0, v1), (2, 0, v2)] [] m (fun r m1 => gh_F m1 ∧ Q r m1) := by
    intro m hF hj
    have h := hJ233 m hj
    obtain ⟨q3697, h⟩ := h
    refine gh_iinc (L2 := [(2, 0, v2 + 1), (0, 2, 63), (1, 0, v1)]) gd_Model_findStanding_233 2 rfl q3697 (by decide) rfl ?_
    refine gh_goto (tgt := 71) gd_Model_findStanding_236 (by decide) ?_
    refine gh_pick (L2 := [(0, 2, 63), (1, 0, v1), (2, 0, v2 + 1)]) [1, 2, 0] rfl ?_
    exact hK71 (v2 + 1) m hF h
  obtain ⟨hk, hA, hB⟩ := h
  have k3702 : ((v5 ≤ (m 63 50)) ∧ ((v4 < (m 80 v3)) ∧ ((m 81 v2) < 0))) → gh_T E (gh_yModel_findStanding.cls, prog_14_method_71_code, 7, false, 9) (d + 1) 122 [(0, 2, 63), (1, 0, v1), (2, 0, v2), (3, 0, v3), (4, 0, v4), (5, 0, v5)] [] m (fun r m1 => gh_F m1 ∧ Q r m1) := by
    intro c
    have h := hA c
    refine gh_iload gd_Model_findStanding_122 5 rfl ?_
    refine gh_istore (L2 := [(6, 0, v5), (0, 2, 63), (1, 0, v1), (2, 0, v2), (3, 0, v3), (4, 0, v4), (5, 0, v5)]) gd_Model_findStanding_124 (by decide) rfl ?_
    refine gh_pick (L2 := [(0, 2, 63), (1, 0, v1), (2, 0, v2), (3, 0, v3), (4, 0, v4), (5, 0, v5), (6, 0, v5)]) [1, 2, 3, 4, 5, 6, 0] rfl ?_
    exact gh_M1_sound (T := fun v6 m => gh_T E (gh_yModel_findStanding.cls, prog_14_method_71_code, 7, false, 9) (d + 1) 126 [(0, 2, 63), (1, 0, v1), (2, 0, v2), (3, 0, v3), (4, 0, v4), (5, 0, v5), (6, 0, v6)] [] m (fun r m1 => gh_F m1 ∧ Q r m1)) (fun _ m => gh_F m) (fun K126 v6 m hK hF h => b_Model_findStanding_126 d hK93 hK v6 m hF h) v5 m hF h
  have k3703 : ¬ ((v5 ≤ (m 63 50)) ∧ ((v4 < (m 80 v3)) ∧ ((m 81 v2) < 0))) → gh_T E (gh_yModel_findStanding.cls, prog_14_method_71_code, 7, false, 9) (d + 1) 233 [(0, 2, 63), (1, 0, v1), (2, 0, v2), (3, 0, v3), (4, 0, v4), (5, 0, v5)] [] m (fun r m1 => gh_F m1 ∧ Q r m1) := by
    intro c
    have h := hB c
    refine gh_pick (L2 := [(0, 2, 63), (1, 0, v1), (2, 0, v2)]) [0, 1, 2] rfl ?_
    exact hJ233 m hF h
  refine gh_jgt (tgt := 233) gd_Model_findStanding_99 (by decide) (fun c3737 => ?_) (fun c3737 => ?_)
  · have hz : True := trivial
    have hk := hk c3737
    refine gh_iload gd_Model_findStanding_102 4 rfl ?_
    refine gh_aload_n gd_Model_findStanding_104 0 rfl (by decide) ?_
    refine gf_63_33 gd_Model_findStanding_105 gh_k1400 hF ?_
    refine gh_iload_n gd_Model_findStanding_108 3 rfl ?_
    obtain ⟨q3698, hk⟩ := hk
    obtain ⟨q3699, hk⟩ := hk
    refine la_80 gd_Model_findStanding_109 hF q3698 q3699 rfl ?_
    refine gh_jge (tgt := 233) gd_Model_findStanding_110 (by decide) (fun c3738 => ?_) (fun c3738 => ?_)
    · have hz : True := trivial
      have hk := hk c3738
      refine gh_aload_n gd_Model_findStanding_113 0 rfl (by decide) ?_
      refine gf_63_34 gd_Model_findStanding_114 gh_k1401 hF ?_
      refine gh_iload_n gd_Model_findStanding_117 2 rfl ?_
      obtain ⟨q3700, hk⟩ := hk
      have q3701 := hk
      refine la_81 gd_Model_findStanding_118 hF q3700 q3701 rfl ?_
      refine gh_zge (tgt := 233) gd_Model_findStanding_119 (by decide) (fun c3739 => ?_) (fun c3739 => ?_)
      · have hz : True := trivial
        exact k3702 ⟨c3737, ⟨c3738, c3739⟩⟩
      · have hz : True := trivial
        exact k3703 (fun z => (fun z => c3739 z.2) z.2)
    · have hz : True := trivial
      exact k3703 (fun z => (fun z => c3738 z.1) z.2)
  · have hz : True := trivial
    exact k3703 (fun z => c3737 z.1)
theorem b_Model_findStanding_71 {E : gh_E} {v1 : Int} {K58 : Int → gh_M → Prop} {Q : Int → gh_M → Prop} {K71 : Int → gh_M → Prop} (d : Nat) (hK58 : ∀ (v1 : Int) (m : gh_M), gh_F m → K58 v1 m → gh_T E (gh_yModel_findStanding.cls, prog_14_method_71_code, 7, false, 9) (d + 1) 58 [(0, 2, 63), (1, 0, v1)] [] m (fun r m1 => gh_F m1 ∧ Q r m1)) (hK : ∀ (v2 : Int) (m : gh_M), gh_F m → K71 v2 m → gh_T E (gh_yModel_findStanding.cls, prog_14_method_71_code, 7, false, 9) (d + 1) 71 [(0, 2, 63), (1, 0, v1), (2, 0, v2)] [] m (fun r m1 => gh_F m1 ∧ Q r m1)) (v2 : Int) (m : gh_M) (hF : gh_F m) (h : f_Model_findStanding_71 v1 K58 K71 v2 m) : gh_T E (gh_yModel_findStanding.cls, prog_14_method_71_code, 7, false, 9) (d + 1) 71 [(0, 2, 63), (1, 0, v1), (2, 0, v2)] [] m (fun r m1 => gh_F m1 ∧ Q r m1) := by
  have hK71 := hK
  unfold f_Model_findStanding_71 at h
  refine gh_iload_n gd_Model_findStanding_71 2 rfl ?_
  refine gh_iconst gd_Model_findStanding_72 (gh_r0 rfl) ?_
  refine gh_aload_n gd_Model_findStanding_73 0 rfl (by decide) ?_
  refine gf_63_27 gd_Model_findStanding_74 gh_k1394 hF rfl ?_
  obtain ⟨q3693, h⟩ := h
  refine gh_imul gd_Model_findStanding_77 q3693 ?_
  obtain ⟨hA, hB⟩ := h
  refine gh_jge (tgt := 239) gd_Model_findStanding_78 (by decide) (fun c3694 => ?_) (fun c3694 => ?_)
  · have h := hA c3694
    refine gh_iload_n gd_Model_findStanding_81 2 rfl ?_
    refine gh_iconst gd_Model_findStanding_82 (gh_r0 rfl) ?_
    obtain ⟨q3695, h⟩ := h
    refine gh_idiv gd_Model_findStanding_83 q3695 (by decide) ?_
    refine gh_name (fun v3 hn => ?_)
    have h := h v3 hn
    refine gh_istore_n (L2 := [(3, 0, v3), (0, 2, 63), (1, 0, v1), (2, 0, v2)]) gd_Model_findStanding_84 (by decide) rfl ?_
    refine gh_iload_n gd_Model_findStanding_85 3 rfl ?_
    refine gh_iconst gd_Model_findStanding_86 (gh_r0 rfl) ?_
    obtain ⟨q3696, h⟩ := h
    refine gh_irem gd_Model_findStanding_87 q3696 (by decide) ?_
    refine gh_name (fun v4 hn => ?_)
    have h := h v4 hn
    refine gh_istore (L2 := [(4, 0, v4), (3, 0, v3), (0, 2, 63), (1, 0, v1), (2, 0, v2)]) gd_Model_findStanding_88 (by decide) rfl ?_
    refine gh_iconst gd_Model_findStanding_90 (gh_r0 rfl) ?_
    refine gh_istore (L2 := [(5, 0, 0), (4, 0, v4), (3, 0, v3), (0, 2, 63), (1, 0, v1), (2, 0, v2)]) gd_Model_findStanding_91 (by decide) rfl ?_
    refine gh_pick (L2 := [(0, 2, 63), (1, 0, v1), (2, 0, v2), (3, 0, v3), (4, 0, v4), (5, 0, 0)]) [3, 4, 5, 2, 1, 0] rfl ?_
    exact gh_M1_sound (T := fun v5 m => gh_T E (gh_yModel_findStanding.cls, prog_14_method_71_code, 7, false, 9) (d + 1) 93 [(0, 2, 63), (1, 0, v1), (2, 0, v2), (3, 0, v3), (4, 0, v4), (5, 0, v5)] [] m (fun r m1 => gh_F m1 ∧ Q r m1)) (fun _ m => gh_F m) (fun K93 v5 m hK hF h => b_Model_findStanding_93 d hK71 hK v5 m hF h) 0 m hF h
  · have h := hB c3694
    obtain ⟨q3740, h⟩ := h
    refine gh_iinc (L2 := [(1, 0, v1 + 1), (0, 2, 63), (2, 0, v2)]) gd_Model_findStanding_239 1 rfl q3740 (by decide) rfl ?_
    refine gh_goto (tgt := 58) gd_Model_findStanding_242 (by decide) ?_
    refine gh_pick (L2 := [(0, 2, 63), (1, 0, v1 + 1)]) [1, 0] rfl ?_
    exact hK58 (v1 + 1) m hF h
theorem b_Model_findStanding_58 {E : gh_E} {Q : Int → gh_M → Prop} {K58 : Int → gh_M → Prop} (d : Nat) (hK : ∀ (v1 : Int) (m : gh_M), gh_F m → K58 v1 m → gh_T E (gh_yModel_findStanding.cls, prog_14_method_71_code, 7, false, 9) (d + 1) 58 [(0, 2, 63), (1, 0, v1)] [] m (fun r m1 => gh_F m1 ∧ Q r m1)) (v1 : Int) (m : gh_M) (hF : gh_F m) (h : f_Model_findStanding_58 Q K58 v1 m) : gh_T E (gh_yModel_findStanding.cls, prog_14_method_71_code, 7, false, 9) (d + 1) 58 [(0, 2, 63), (1, 0, v1)] [] m (fun r m1 => gh_F m1 ∧ Q r m1) := by
  have hK58 := hK
  unfold f_Model_findStanding_58 at h
  refine gh_iload_n gd_Model_findStanding_58 1 rfl ?_
  refine gh_bipush gd_Model_findStanding_59 (by decide) (gh_r0 rfl) ?_
  refine gh_aload_n gd_Model_findStanding_61 0 rfl (by decide) ?_
  refine gf_63_26 gd_Model_findStanding_62 gh_k1393 hF rfl ?_
  obtain ⟨q3691, h⟩ := h
  refine gh_imul gd_Model_findStanding_65 q3691 ?_
  obtain ⟨hA, hB⟩ := h
  refine gh_jge (tgt := 245) gd_Model_findStanding_66 (by decide) (fun c3692 => ?_) (fun c3692 => ?_)
  · have h := hA c3692
    refine gh_iconst gd_Model_findStanding_69 (gh_r0 rfl) ?_
    refine gh_istore_n (L2 := [(2, 0, 0), (0, 2, 63), (1, 0, v1)]) gd_Model_findStanding_70 (by decide) rfl ?_
    refine gh_pick (L2 := [(0, 2, 63), (1, 0, v1), (2, 0, 0)]) [1, 2, 0] rfl ?_
    exact gh_M1_sound (T := fun v2 m => gh_T E (gh_yModel_findStanding.cls, prog_14_method_71_code, 7, false, 9) (d + 1) 71 [(0, 2, 63), (1, 0, v1), (2, 0, v2)] [] m (fun r m1 => gh_F m1 ∧ Q r m1)) (fun _ m => gh_F m) (fun K71 v2 m hK hF h => b_Model_findStanding_71 d hK58 hK v2 m hF h) 0 m hF h
  · have h := hB c3692
    exact gh_ret9 rfl gd_Model_findStanding_245 ⟨hF, h⟩
theorem b_Model_findStanding_2 {E : gh_E} {Q : Int → gh_M → Prop} {K2 : Int → gh_M → Prop} (d : Nat) (hK : ∀ (v1 : Int) (m : gh_M), gh_F m → K2 v1 m → gh_T E (gh_yModel_findStanding.cls, prog_14_method_71_code, 7, false, 9) (d + 1) 2 [(0, 2, 63), (1, 0, v1)] [] m (fun r m1 => gh_F m1 ∧ Q r m1)) (v1 : Int) (m : gh_M) (hF : gh_F m) (h : f_Model_findStanding_2 Q K2 v1 m) : gh_T E (gh_yModel_findStanding.cls, prog_14_method_71_code, 7, false, 9) (d + 1) 2 [(0, 2, 63), (1, 0, v1)] [] m (fun r m1 => gh_F m1 ∧ Q r m1) := by
  have hK2 := hK
  unfold f_Model_findStanding_2 at h
  refine gh_iload_n gd_Model_findStanding_2 1 rfl ?_
  refine gh_bipush gd_Model_findStanding_3 (by decide) (gh_r0 rfl) ?_
  obtain ⟨hA, hB⟩ := h
  refine gh_jge (tgt := 56) gd_Model_findStanding_5 (by decide) (fun c3678 => ?_) (fun c3678 => ?_)
  · have h := hA c3678
    refine gh_aload_n gd_Model_findStanding_8 0 rfl (by decide) ?_
    refine gf_63_55 gd_Model_findStanding_9 gh_k1422 hF ?_
    refine gh_iload_n gd_Model_findStanding_12 1 rfl ?_
    refine gh_iload_n gd_Model_findStanding_13 1 rfl ?_
    have k3679 : ∀ x3680 : Int, x3680 = (if (v1 = 0) then (1:Int) else 0) → gh_T E (gh_yModel_findStanding.cls, prog_14_method_71_code, 7, false, 9) (d + 1) 22 [(0, 2, 63), (1, 0, v1)] [(0, x3680), (0, v1), (2, 99)] m (fun r m1 => gh_F m1 ∧ Q r m1) := by
      rintro _ rfl
      obtain ⟨q3681, h⟩ := h
      obtain ⟨q3682, h⟩ := h
      refine sa_99 gd_Model_findStanding_22 hF q3681 q3682 gh_ib01 (fun hF => ?_)
      refine gh_aload_n gd_Model_findStanding_23 0 rfl (by decide) ?_
      refine gf_63_56 gd_Model_findStanding_24 gh_k1423 hF ?_
      refine gh_iload_n gd_Model_findStanding_27 1 rfl ?_
      refine gh_iload_n gd_Model_findStanding_28 1 rfl ?_
      have k3683 : ∀ x3684 : Int, x3684 = (if ((v1 = 0) ∧ ((m 82 0) < 1000000000)) then (1:Int) else 0) → gh_T E (gh_yModel_findStanding.cls, prog_14_method_71_code, 7, false, 9) (d + 1) 49 [(0, 2, 63), (1, 0, v1)] [(0, x3684), (0, v1), (2, 100)] (gh_u m 99 v1 (if (v1 = 0) then (1:Int) else 0)) (fun r m1 => gh_F m1 ∧ Q r m1) := by
        rintro _ rfl
        obtain ⟨q3685, h⟩ := h
        obtain ⟨q3686, h⟩ := h
        refine sa_100 gd_Model_findStanding_49 hF q3685 q3686 gh_ib01 (fun hF => ?_)
        obtain ⟨q3687, h⟩ := h
        refine gh_iinc (L2 := [(1, 0, v1 + 1), (0, 2, 63)]) gd_Model_findStanding_50 1 rfl q3687 (by decide) rfl ?_
        refine gh_goto (tgt := 2) gd_Model_findStanding_53 (by decide) ?_
        refine gh_pick (L2 := [(0, 2, 63), (1, 0, v1 + 1)]) [1, 0] rfl ?_
        exact hK2 (v1 + 1) (gh_u (gh_u m 99 v1 (if (v1 = 0) then (1:Int) else 0)) 100 v1 (if ((v1 = 0) ∧ ((m 82 0) < 1000000000)) then (1:Int) else 0)) hF h
      refine gh_zne (tgt := 48) gd_Model_findStanding_29 (by decide) (fun c3688 => ?_) (fun c3688 => ?_)
      · have hz : True := trivial
        refine gh_aload_n gd_Model_findStanding_32 0 rfl (by decide) ?_
        refine gf_63_35 gd_Model_findStanding_33 gh_k1402 hF ?_
        refine gh_iconst gd_Model_findStanding_36 (gh_r0 rfl) ?_
        refine la_82 gd_Model_findStanding_37 hF (by decide) (by decide) (gh_u_a (by decide)) ?_
        refine gh_ldcw (n := 1000000000) gd_Model_findStanding_38 gh_k1741 (by decide) (gh_r0 rfl) ?_
        refine gh_jge (tgt := 48) gd_Model_findStanding_41 (by decide) (fun c3689 => ?_) (fun c3689 => ?_)
        · have hz : True := trivial
          refine gh_iconst gd_Model_findStanding_44 (gh_r0 rfl) ?_
          refine gh_goto (tgt := 49) gd_Model_findStanding_45 (by decide) ?_
          exact k3683 _ (if_pos (c := ((v1 = 0) ∧ ((m 82 0) < 1000000000))) ⟨c3688, c3689⟩).symm
        · have hz : True := trivial
          refine gh_iconst gd_Model_findStanding_48 (gh_r0 rfl) ?_
          exact k3683 _ (if_neg (c := ((v1 = 0) ∧ ((m 82 0) < 1000000000))) (fun z => c3689 z.2)).symm
      · have hz : True := trivial
        refine gh_iconst gd_Model_findStanding_48 (gh_r0 rfl) ?_
        exact k3683 _ (if_neg (c := ((v1 = 0) ∧ ((m 82 0) < 1000000000))) (fun z => c3688 z.1)).symm
    refine gh_zne (tgt := 21) gd_Model_findStanding_14 (by decide) (fun c3690 => ?_) (fun c3690 => ?_)
    · have hz : True := trivial
      refine gh_iconst gd_Model_findStanding_17 (gh_r0 rfl) ?_
      refine gh_goto (tgt := 22) gd_Model_findStanding_18 (by decide) ?_
      exact k3679 _ (if_pos (c := (v1 = 0)) c3690).symm
    · have hz : True := trivial
      refine gh_iconst gd_Model_findStanding_21 (gh_r0 rfl) ?_
      exact k3679 _ (if_neg (c := (v1 = 0)) c3690).symm
  · have h := hB c3678
    refine gh_iconst gd_Model_findStanding_56 (gh_r0 rfl) ?_
    refine gh_istore_n (L2 := [(1, 0, 0), (0, 2, 63)]) gd_Model_findStanding_57 (by decide) rfl ?_
    refine gh_pick (L2 := [(0, 2, 63), (1, 0, 0)]) [1, 0] rfl ?_
    exact gh_M1_sound (T := fun v1 m => gh_T E (gh_yModel_findStanding.cls, prog_14_method_71_code, 7, false, 9) (d + 1) 58 [(0, 2, 63), (1, 0, v1)] [] m (fun r m1 => gh_F m1 ∧ Q r m1)) (fun _ m => gh_F m) (fun K58 v1 m hK hF h => b_Model_findStanding_58 d hK v1 m hF h) 0 m hF h
theorem s_Model_findStanding {E : gh_E} {m : gh_M} {Q : Int → gh_M → Prop} (d : Nat) (hF : gh_F m) (h : w_Model_findStanding m Q) : gh_C E gh_yModel_findStanding prog_14_method_71_code 7 none 9 (d + 1) [(2, 63)] m (fun r m1 => gh_F m1 ∧ Q r m1) := by
  refine gh_enter2 (L := [(0, 2, 63)]) (by decide +kernel) gh_rt9 (Nat.le_of_ble_eq_true rfl) rfl rfl ?_
  unfold w_Model_findStanding at h
  refine gh_iconst gd_Model_findStanding_0 (gh_r0 rfl) ?_
  refine gh_istore_n (L2 := [(1, 0, 0), (0, 2, 63)]) gd_Model_findStanding_1 (by decide) rfl ?_
  refine gh_pick (L2 := [(0, 2, 63), (1, 0, 0)]) [1, 0] rfl ?_
  exact gh_M1_sound (T := fun v1 m => gh_T E (gh_yModel_findStanding.cls, prog_14_method_71_code, 7, false, 9) (d + 1) 2 [(0, 2, 63), (1, 0, v1)] [] m (fun r m1 => gh_F m1 ∧ Q r m1)) (fun _ m => gh_F m) (fun K2 v1 m hK hF h => b_Model_findStanding_2 d hK v1 m hF h) 0 m hF h
def f_Model_lay_106 (K98 : Int → gh_M → Prop) (K106 : Int → Int → gh_M → Prop) (v1 : Int) (v2 : Int) (m : gh_M) : Prop := ((v2 < (m 63 27) → w_Model_goesOn v2 m (fun r3764 m3765 => ∀ v1' : Int, v1' = (if (¬ (r3764 = 0) ∨ (¬ (v1 = 0))) then (1:Int) else 0) → gh_i (v2 + 1) ∧ K106 v1' (v2 + 1) m3765)) ∧ (¬ (v2 < (m 63 27)) → K98 v1 m))
def f_Model_lay_98 (Q : Int → gh_M → Prop) (K98 : Int → gh_M → Prop) (v1 : Int) (m : gh_M) : Prop := ((v1 = 0 → w_Model_findStanding m (fun _ m3762 => Q 0 m3762)) ∧ (¬ (v1 = 0) → gh_M2 (fun K106 v1 v2 m => f_Model_lay_106 K98 K106 v1 v2 m) 0 0 m))
def f_Model_lay_37 (Q : Int → gh_M → Prop) (K37 : Int → gh_M → Prop) (v1 : Int) (m : gh_M) : Prop := ((v1 < 8100 → 0 ≤ v1 ∧ ((((v1 % 405) < 81) → (0 ≤ v1 ∧ 0 ≤ v1 % 81 ∧ 0 ≤ v1 ∧ ((((v1 % 81) / 9) = (v1 % 9)) → (0 ≤ v1))))) ∧ 0 ≤ v1 ∧ v1 < 8100 ∧ gh_i (v1 + 1) ∧ K37 (v1 + 1) (gh_u m 98 v1 (if (((v1 % 405) < 81) ∧ ((((v1 % 81) / 9) = (v1 % 9)) ∧ ((v1 % 9) ≤ (m 63 50)))) then (1:Int) else 0))) ∧ (¬ (v1 < 8100) → gh_M1 (fun K98 v1 m => f_Model_lay_98 Q K98 v1 m) 1 m))
def f_Model_lay_15 (Q : Int → gh_M → Prop) (K15 : Int → gh_M → Prop) (v1 : Int) (m : gh_M) : Prop := ((v1 < 648 → 0 ≤ v1 ∧ v1 < 648 ∧ gh_i (v1 + 1) ∧ K15 (v1 + 1) (gh_u m 97 v1 0)) ∧ (¬ (v1 < 648) → gh_M1 (fun K37 v1 m => f_Model_lay_37 Q K37 v1 m) 0 m))
def w_Model_lay (m : gh_M) (Q : Int → gh_M → Prop) : Prop := (((m 63 52) = 0 → gh_M1 (fun K15 v1 m => f_Model_lay_15 Q K15 v1 m) 0 (gh_u m 63 52 1)) ∧ (¬ ((m 63 52) = 0) → Q 0 m))
theorem b_Model_lay_106 {E : gh_E} {K98 : Int → gh_M → Prop} {Q : Int → gh_M → Prop} {K106 : Int → Int → gh_M → Prop} (d : Nat) (hK98 : ∀ (v1 : Int) (m : gh_M), gh_F m → K98 v1 m → gh_T E (gh_yModel_lay.cls, prog_14_method_72_code, 3, false, 9) (d + 2) 98 [(0, 2, 63), (1, 0, v1)] [] m (fun r m1 => gh_F m1 ∧ Q r m1)) (hK : ∀ (v1 : Int) (v2 : Int) (m : gh_M), gh_F m → K106 v1 v2 m → gh_T E (gh_yModel_lay.cls, prog_14_method_72_code, 3, false, 9) (d + 2) 106 [(0, 2, 63), (1, 0, v1), (2, 0, v2)] [] m (fun r m1 => gh_F m1 ∧ Q r m1)) (v1 : Int) (v2 : Int) (m : gh_M) (hF : gh_F m) (h : f_Model_lay_106 K98 K106 v1 v2 m) : gh_T E (gh_yModel_lay.cls, prog_14_method_72_code, 3, false, 9) (d + 2) 106 [(0, 2, 63), (1, 0, v1), (2, 0, v2)] [] m (fun r m1 => gh_F m1 ∧ Q r m1) := by
  have hK106 := hK
  unfold f_Model_lay_106 at h
  refine gh_iload_n gd_Model_lay_106 2 rfl ?_
  refine gh_aload_n gd_Model_lay_107 0 rfl (by decide) ?_
  refine gf_63_27 gd_Model_lay_108 gh_k1394 hF rfl ?_
  obtain ⟨hA, hB⟩ := h
  refine gh_jge (tgt := 138) gd_Model_lay_111 (by decide) (fun c3763 => ?_) (fun c3763 => ?_)
  · have h := hA c3763
    refine gh_aload_n gd_Model_lay_114 0 rfl (by decide) ?_
    refine gh_iload_n gd_Model_lay_115 2 rfl ?_
    refine cv_Model_goesOn (d := d + 1) gd_Model_lay_116 gh_k1900 hF (Nat.le_of_ble_eq_true rfl) (gh_C.mono (s_Model_goesOn d v2 hF h) (fun r3764 m3765 hq => ?_))
    obtain ⟨hF, h⟩ := hq
    have k3766 : ∀ x3767 : Int, x3767 = (if (¬ (r3764 = 0) ∨ (¬ (v1 = 0))) then (1:Int) else 0) → gh_T E (gh_yModel_lay.cls, prog_14_method_72_code, 3, false, 9) (d + 2) 131 [(0, 2, 63), (1, 0, v1), (2, 0, v2)] [(0, x3767)] m3765 (fun r m1 => gh_F m1 ∧ Q r m1) := by
      rintro _ rfl
      refine gh_name (fun v1' hn => ?_)
      have h := h v1' hn
      refine gh_istore_n (L2 := [(1, 0, v1'), (0, 2, 63), (2, 0, v2)]) gd_Model_lay_131 (by decide) rfl ?_
      obtain ⟨q3768, h⟩ := h
      refine gh_iinc (L2 := [(2, 0, v2 + 1), (1, 0, v1'), (0, 2, 63)]) gd_Model_lay_132 2 rfl q3768 (by decide) rfl ?_
      refine gh_goto (tgt := 106) gd_Model_lay_135 (by decide) ?_
      refine gh_pick (L2 := [(0, 2, 63), (1, 0, v1'), (2, 0, v2 + 1)]) [2, 1, 0] rfl ?_
      exact hK106 v1' (v2 + 1) m3765 hF h
    refine gh_zne (tgt := 126) gd_Model_lay_119 (by decide) (fun c3769 => ?_) (fun c3769 => ?_)
    · have hz : True := trivial
      refine gh_iload_n gd_Model_lay_122 1 rfl ?_
      refine gh_zeq (tgt := 130) gd_Model_lay_123 (by decide) (fun c3770 => ?_) (fun c3770 => ?_)
      · have hz : True := trivial
        refine gh_iconst gd_Model_lay_130 (gh_r0 rfl) ?_
        exact k3766 _ (if_neg (c := (¬ (r3764 = 0) ∨ (¬ (v1 = 0)))) (fun z => z.elim (fun w => w c3769) (not_not_intro c3770))).symm
      · have hz : True := trivial
        refine gh_iconst gd_Model_lay_126 (gh_r0 rfl) ?_
        refine gh_goto (tgt := 131) gd_Model_lay_127 (by decide) ?_
        exact k3766 _ (if_pos (c := (¬ (r3764 = 0) ∨ (¬ (v1 = 0)))) (Or.inr c3770)).symm
    · have hz : True := trivial
      refine gh_iconst gd_Model_lay_126 (gh_r0 rfl) ?_
      refine gh_goto (tgt := 131) gd_Model_lay_127 (by decide) ?_
      exact k3766 _ (if_pos (c := (¬ (r3764 = 0) ∨ (¬ (v1 = 0)))) (Or.inl c3769)).symm
  · have h := hB c3763
    refine gh_goto (tgt := 98) gd_Model_lay_138 (by decide) ?_
    refine gh_pick (L2 := [(0, 2, 63), (1, 0, v1)]) [0, 1] rfl ?_
    exact hK98 v1 m hF h
theorem b_Model_lay_98 {E : gh_E} {Q : Int → gh_M → Prop} {K98 : Int → gh_M → Prop} (d : Nat) (hK : ∀ (v1 : Int) (m : gh_M), gh_F m → K98 v1 m → gh_T E (gh_yModel_lay.cls, prog_14_method_72_code, 3, false, 9) (d + 2) 98 [(0, 2, 63), (1, 0, v1)] [] m (fun r m1 => gh_F m1 ∧ Q r m1)) (v1 : Int) (m : gh_M) (hF : gh_F m) (h : f_Model_lay_98 Q K98 v1 m) : gh_T E (gh_yModel_lay.cls, prog_14_method_72_code, 3, false, 9) (d + 2) 98 [(0, 2, 63), (1, 0, v1)] [] m (fun r m1 => gh_F m1 ∧ Q r m1) := by
  have hK98 := hK
  unfold f_Model_lay_98 at h
  refine gh_iload_n gd_Model_lay_98 1 rfl ?_
  obtain ⟨hA, hB⟩ := h
  refine gh_zeq (tgt := 141) gd_Model_lay_99 (by decide) (fun c3760 => ?_) (fun c3760 => ?_)
  · have h := hA c3760
    refine gh_aload_n gd_Model_lay_141 0 rfl (by decide) ?_
    refine cv_Model_findStanding (d := d + 1) gd_Model_lay_142 gh_k1911 hF (Nat.le_of_ble_eq_true rfl) (gh_C.mono (s_Model_findStanding d hF h) (fun r3761 m3762 hq => ?_))
    obtain ⟨hF, h⟩ := hq
    exact gh_ret9 rfl gd_Model_lay_145 ⟨hF, h⟩
  · have h := hB c3760
    refine gh_iconst gd_Model_lay_102 (gh_r0 rfl) ?_
    refine gh_istore_n (L2 := [(1, 0, 0), (0, 2, 63)]) gd_Model_lay_103 (by decide) rfl ?_
    refine gh_iconst gd_Model_lay_104 (gh_r0 rfl) ?_
    refine gh_istore_n (L2 := [(2, 0, 0), (1, 0, 0), (0, 2, 63)]) gd_Model_lay_105 (by decide) rfl ?_
    refine gh_pick (L2 := [(0, 2, 63), (1, 0, 0), (2, 0, 0)]) [2, 1, 0] rfl ?_
    exact gh_M2_sound (T := fun v1 v2 m => gh_T E (gh_yModel_lay.cls, prog_14_method_72_code, 3, false, 9) (d + 2) 106 [(0, 2, 63), (1, 0, v1), (2, 0, v2)] [] m (fun r m1 => gh_F m1 ∧ Q r m1)) (fun _ _ m => gh_F m) (fun K106 v1 v2 m hK hF h => b_Model_lay_106 d hK98 hK v1 v2 m hF h) 0 0 m hF h
theorem b_Model_lay_37 {E : gh_E} {Q : Int → gh_M → Prop} {K37 : Int → gh_M → Prop} (d : Nat) (hK : ∀ (v1 : Int) (m : gh_M), gh_F m → K37 v1 m → gh_T E (gh_yModel_lay.cls, prog_14_method_72_code, 3, false, 9) (d + 2) 37 [(0, 2, 63), (1, 0, v1)] [] m (fun r m1 => gh_F m1 ∧ Q r m1)) (v1 : Int) (m : gh_M) (hF : gh_F m) (h : f_Model_lay_37 Q K37 v1 m) : gh_T E (gh_yModel_lay.cls, prog_14_method_72_code, 3, false, 9) (d + 2) 37 [(0, 2, 63), (1, 0, v1)] [] m (fun r m1 => gh_F m1 ∧ Q r m1) := by
  have hK37 := hK
  unfold f_Model_lay_37 at h
  refine gh_iload_n gd_Model_lay_37 1 rfl ?_
  refine gh_sipush gd_Model_lay_38 (by decide) (gh_r0 rfl) ?_
  obtain ⟨hA, hB⟩ := h
  refine gh_jge (tgt := 96) gd_Model_lay_41 (by decide) (fun c3746 => ?_) (fun c3746 => ?_)
  · have h := hA c3746
    refine gh_aload_n gd_Model_lay_44 0 rfl (by decide) ?_
    refine gf_63_54 gd_Model_lay_45 gh_k1421 hF ?_
    refine gh_iload_n gd_Model_lay_48 1 rfl ?_
    refine gh_iload_n gd_Model_lay_49 1 rfl ?_
    refine gh_sipush gd_Model_lay_50 (by decide) (gh_r0 rfl) ?_
    obtain ⟨q3747, h⟩ := h
    refine gh_irem gd_Model_lay_53 q3747 (by decide) ?_
    refine gh_bipush gd_Model_lay_54 (by decide) (gh_r0 rfl) ?_
    obtain ⟨hk, h⟩ := h
    have k3752 : ∀ x3753 : Int, x3753 = (if (((v1 % 405) < 81) ∧ ((((v1 % 81) / 9) = (v1 % 9)) ∧ ((v1 % 9) ≤ (m 63 50)))) then (1:Int) else 0) → gh_T E (gh_yModel_lay.cls, prog_14_method_72_code, 3, false, 9) (d + 2) 89 [(0, 2, 63), (1, 0, v1)] [(0, x3753), (0, v1), (2, 98)] m (fun r m1 => gh_F m1 ∧ Q r m1) := by
      rintro _ rfl
      obtain ⟨q3754, h⟩ := h
      obtain ⟨q3755, h⟩ := h
      refine sa_98 gd_Model_lay_89 hF q3754 q3755 gh_ib01 (fun hF => ?_)
      obtain ⟨q3756, h⟩ := h
      refine gh_iinc (L2 := [(1, 0, v1 + 1), (0, 2, 63)]) gd_Model_lay_90 1 rfl q3756 (by decide) rfl ?_
      refine gh_goto (tgt := 37) gd_Model_lay_93 (by decide) ?_
      refine gh_pick (L2 := [(0, 2, 63), (1, 0, v1 + 1)]) [1, 0] rfl ?_
      exact hK37 (v1 + 1) (gh_u m 98 v1 (if (((v1 % 405) < 81) ∧ ((((v1 % 81) / 9) = (v1 % 9)) ∧ ((v1 % 9) ≤ (m 63 50)))) then (1:Int) else 0)) hF h
    refine gh_jge (tgt := 88) gd_Model_lay_56 (by decide) (fun c3757 => ?_) (fun c3757 => ?_)
    · have hz : True := trivial
      have hk := hk c3757
      refine gh_iload_n gd_Model_lay_59 1 rfl ?_
      refine gh_bipush gd_Model_lay_60 (by decide) (gh_r0 rfl) ?_
      obtain ⟨q3748, hk⟩ := hk
      refine gh_irem gd_Model_lay_62 q3748 (by decide) ?_
      refine gh_bipush gd_Model_lay_63 (by decide) (gh_r0 rfl) ?_
      obtain ⟨q3749, hk⟩ := hk
      refine gh_idiv gd_Model_lay_65 q3749 (by decide) ?_
      refine gh_iload_n gd_Model_lay_66 1 rfl ?_
      refine gh_bipush gd_Model_lay_67 (by decide) (gh_r0 rfl) ?_
      obtain ⟨q3750, hk⟩ := hk
      refine gh_irem gd_Model_lay_69 q3750 (by decide) ?_
      refine gh_jne (tgt := 88) gd_Model_lay_70 (by decide) (fun c3758 => ?_) (fun c3758 => ?_)
      · have hz : True := trivial
        have hk := hk c3758
        refine gh_iload_n gd_Model_lay_73 1 rfl ?_
        refine gh_bipush gd_Model_lay_74 (by decide) (gh_r0 rfl) ?_
        have q3751 := hk
        refine gh_irem gd_Model_lay_76 q3751 (by decide) ?_
        refine gh_aload_n gd_Model_lay_77 0 rfl (by decide) ?_
        refine gf_63_50 gd_Model_lay_78 gh_k1417 hF rfl ?_
        refine gh_jgt (tgt := 88) gd_Model_lay_81 (by decide) (fun c3759 => ?_) (fun c3759 => ?_)
        · have hz : True := trivial
          refine gh_iconst gd_Model_lay_84 (gh_r0 rfl) ?_
          refine gh_goto (tgt := 89) gd_Model_lay_85 (by decide) ?_
          exact k3752 _ (if_pos (c := (((v1 % 405) < 81) ∧ ((((v1 % 81) / 9) = (v1 % 9)) ∧ ((v1 % 9) ≤ (m 63 50))))) ⟨c3757, ⟨c3758, c3759⟩⟩).symm
        · have hz : True := trivial
          refine gh_iconst gd_Model_lay_88 (gh_r0 rfl) ?_
          exact k3752 _ (if_neg (c := (((v1 % 405) < 81) ∧ ((((v1 % 81) / 9) = (v1 % 9)) ∧ ((v1 % 9) ≤ (m 63 50))))) (fun z => (fun z => c3759 z.2) z.2)).symm
      · have hz : True := trivial
        refine gh_iconst gd_Model_lay_88 (gh_r0 rfl) ?_
        exact k3752 _ (if_neg (c := (((v1 % 405) < 81) ∧ ((((v1 % 81) / 9) = (v1 % 9)) ∧ ((v1 % 9) ≤ (m 63 50))))) (fun z => (fun z => c3758 z.1) z.2)).symm
    · have hz : True := trivial
      refine gh_iconst gd_Model_lay_88 (gh_r0 rfl) ?_
      exact k3752 _ (if_neg (c := (((v1 % 405) < 81) ∧ ((((v1 % 81) / 9) = (v1 % 9)) ∧ ((v1 % 9) ≤ (m 63 50))))) (fun z => c3757 z.1)).symm
  · have h := hB c3746
    refine gh_iconst gd_Model_lay_96 (gh_r0 rfl) ?_
    refine gh_istore_n (L2 := [(1, 0, 1), (0, 2, 63)]) gd_Model_lay_97 (by decide) rfl ?_
    refine gh_pick (L2 := [(0, 2, 63), (1, 0, 1)]) [1, 0] rfl ?_
    exact gh_M1_sound (T := fun v1 m => gh_T E (gh_yModel_lay.cls, prog_14_method_72_code, 3, false, 9) (d + 2) 98 [(0, 2, 63), (1, 0, v1)] [] m (fun r m1 => gh_F m1 ∧ Q r m1)) (fun _ m => gh_F m) (fun K98 v1 m hK hF h => b_Model_lay_98 d hK v1 m hF h) 1 m hF h
theorem b_Model_lay_15 {E : gh_E} {Q : Int → gh_M → Prop} {K15 : Int → gh_M → Prop} (d : Nat) (hK : ∀ (v1 : Int) (m : gh_M), gh_F m → K15 v1 m → gh_T E (gh_yModel_lay.cls, prog_14_method_72_code, 3, false, 9) (d + 2) 15 [(0, 2, 63), (1, 0, v1)] [] m (fun r m1 => gh_F m1 ∧ Q r m1)) (v1 : Int) (m : gh_M) (hF : gh_F m) (h : f_Model_lay_15 Q K15 v1 m) : gh_T E (gh_yModel_lay.cls, prog_14_method_72_code, 3, false, 9) (d + 2) 15 [(0, 2, 63), (1, 0, v1)] [] m (fun r m1 => gh_F m1 ∧ Q r m1) := by
  have hK15 := hK
  unfold f_Model_lay_15 at h
  refine gh_iload_n gd_Model_lay_15 1 rfl ?_
  refine gh_sipush gd_Model_lay_16 (by decide) (gh_r0 rfl) ?_
  obtain ⟨hA, hB⟩ := h
  refine gh_jge (tgt := 35) gd_Model_lay_19 (by decide) (fun c3742 => ?_) (fun c3742 => ?_)
  · have h := hA c3742
    refine gh_aload_n gd_Model_lay_22 0 rfl (by decide) ?_
    refine gf_63_53 gd_Model_lay_23 gh_k1420 hF ?_
    refine gh_iload_n gd_Model_lay_26 1 rfl ?_
    refine gh_iconst gd_Model_lay_27 (gh_r0 rfl) ?_
    obtain ⟨q3743, h⟩ := h
    obtain ⟨q3744, h⟩ := h
    refine sa_97 gd_Model_lay_28 hF q3743 q3744 (by decide) (fun hF => ?_)
    obtain ⟨q3745, h⟩ := h
    refine gh_iinc (L2 := [(1, 0, v1 + 1), (0, 2, 63)]) gd_Model_lay_29 1 rfl q3745 (by decide) rfl ?_
    refine gh_goto (tgt := 15) gd_Model_lay_32 (by decide) ?_
    refine gh_pick (L2 := [(0, 2, 63), (1, 0, v1 + 1)]) [1, 0] rfl ?_
    exact hK15 (v1 + 1) (gh_u m 97 v1 0) hF h
  · have h := hB c3742
    refine gh_iconst gd_Model_lay_35 (gh_r0 rfl) ?_
    refine gh_istore_n (L2 := [(1, 0, 0), (0, 2, 63)]) gd_Model_lay_36 (by decide) rfl ?_
    refine gh_pick (L2 := [(0, 2, 63), (1, 0, 0)]) [1, 0] rfl ?_
    exact gh_M1_sound (T := fun v1 m => gh_T E (gh_yModel_lay.cls, prog_14_method_72_code, 3, false, 9) (d + 2) 37 [(0, 2, 63), (1, 0, v1)] [] m (fun r m1 => gh_F m1 ∧ Q r m1)) (fun _ m => gh_F m) (fun K37 v1 m hK hF h => b_Model_lay_37 d hK v1 m hF h) 0 m hF h
theorem s_Model_lay {E : gh_E} {m : gh_M} {Q : Int → gh_M → Prop} (d : Nat) (hF : gh_F m) (h : w_Model_lay m Q) : gh_C E gh_yModel_lay prog_14_method_72_code 3 none 9 (d + 2) [(2, 63)] m (fun r m1 => gh_F m1 ∧ Q r m1) := by
  refine gh_enter2 (L := [(0, 2, 63)]) (by decide +kernel) gh_rt9 (Nat.le_of_ble_eq_true rfl) rfl rfl ?_
  unfold w_Model_lay at h
  refine gh_aload_n gd_Model_lay_0 0 rfl (by decide) ?_
  refine gf_63_52 gd_Model_lay_1 gh_k1419 hF rfl ?_
  obtain ⟨hA, hB⟩ := h
  refine gh_zeq (tgt := 8) gd_Model_lay_4 (by decide) (fun c3741 => ?_) (fun c3741 => ?_)
  · have h := hA c3741
    refine gh_aload_n gd_Model_lay_8 0 rfl (by decide) ?_
    refine gh_iconst gd_Model_lay_9 (gh_r0 rfl) ?_
    refine pf_63_52 gd_Model_lay_10 gh_k1419 hF (by decide) (fun hF => ?_)
    refine gh_iconst gd_Model_lay_13 (gh_r0 rfl) ?_
    refine gh_istore_n (L2 := [(1, 0, 0), (0, 2, 63)]) gd_Model_lay_14 (by decide) rfl ?_
    refine gh_pick (L2 := [(0, 2, 63), (1, 0, 0)]) [1, 0] rfl ?_
    exact gh_M1_sound (T := fun v1 m => gh_T E (gh_yModel_lay.cls, prog_14_method_72_code, 3, false, 9) (d + 2) 15 [(0, 2, 63), (1, 0, v1)] [] m (fun r m1 => gh_F m1 ∧ Q r m1)) (fun _ m => gh_F m) (fun K15 v1 m hK hF h => b_Model_lay_15 d hK v1 m hF h) 0 (gh_u m 63 52 1) hF h
  · have h := hB c3741
    exact gh_ret9 rfl gd_Model_lay_7 ⟨hF, h⟩
def w_Model_accepts (v1 : Int) (m : gh_M) (Q : Int → gh_M → Prop) : Prop := ∃ J15 : Prop, (J15 → Q (if (m 63 24) = 0 then (-1003) else (-1001)) m) ∧ (((¬ ((m 63 24) = 0) ∧ (p_Model_isPlace v1 m)) → w_Model_lay m (fun _ m3777 => 0 ≤ v1 ∧ v1 < 648 ∧ Q (if p_Model_bit (m3777 97 v1) then (1:Int) else 0) m3777)) ∧ (¬ (¬ ((m 63 24) = 0) ∧ (p_Model_isPlace v1 m)) → J15))
theorem s_Model_accepts {E : gh_E} {m : gh_M} {Q : Int → gh_M → Prop} (d : Nat) (v1 : Int) (hF : gh_F m) (h : w_Model_accepts v1 m Q) : gh_C E gh_yModel_accepts prog_14_method_76_code 2 (some .int) 0 (d + 3) [(2, 63), (0, v1)] m (fun r m1 => gh_F m1 ∧ Q r m1) := by
  refine gh_enter2 (L := [(0, 2, 63), (1, 0, v1)]) (by decide +kernel) gh_rt0 (Nat.le_of_ble_eq_true rfl) rfl rfl ?_
  unfold w_Model_accepts at h
  refine gh_aload_n gd_Model_accepts_0 0 rfl (by decide) ?_
  refine gf_63_24 gd_Model_accepts_1 gh_k1391 hF rfl ?_
  obtain ⟨J15, hJ15, h⟩ := h
  have hJ15 : gh_F m → J15 → gh_T E (gh_yModel_accepts.cls, prog_14_method_76_code, 2, false, 0) (d + 3) 15 [(0, 2, 63)] [] m (fun r m1 => gh_F m1 ∧ Q r m1) := by
    intro hF hj
    have h := hJ15 hj
    refine gh_aload_n gd_Model_accepts_15 0 rfl (by decide) ?_
    refine gf_63_24 gd_Model_accepts_16 gh_k1391 hF rfl ?_
    have k3771 : ∀ x3772 : Int, x3772 = (if (m 63 24) = 0 then (-1003) else (-1001)) → gh_T E (gh_yModel_accepts.cls, prog_14_method_76_code, 2, false, 0) (d + 3) 31 [(0, 2, 63)] [(0, x3772)] m (fun r m1 => gh_F m1 ∧ Q r m1) := by
      rintro _ rfl
      exact gh_ret0 rfl gd_Model_accepts_31 ⟨hF, h⟩
    refine gh_zeq (tgt := 28) gd_Model_accepts_19 (by decide) (fun c3773 => ?_) (fun c3773 => ?_)
    · have hz : True := trivial
      refine gh_sipush gd_Model_accepts_28 (by decide) (gh_r0 rfl) ?_
      exact k3771 _ (by rw [if_pos c3773])
    · have hz : True := trivial
      refine gh_sipush gd_Model_accepts_22 (by decide) (gh_r0 rfl) ?_
      refine gh_goto (tgt := 31) gd_Model_accepts_25 (by decide) ?_
      exact k3771 _ (by rw [if_neg c3773])
  obtain ⟨hA, hB⟩ := h
  have k3774 : (¬ ((m 63 24) = 0) ∧ (p_Model_isPlace v1 m)) → gh_T E (gh_yModel_accepts.cls, prog_14_method_76_code, 2, false, 0) (d + 3) 32 [(0, 2, 63), (1, 0, v1)] [] m (fun r m1 => gh_F m1 ∧ Q r m1) := by
    intro c
    have h := hA c
    refine gh_aload_n gd_Model_accepts_32 0 rfl (by decide) ?_
    refine cv_Model_lay (d := d + 2) gd_Model_accepts_33 gh_k1896 hF (Nat.le_of_ble_eq_true rfl) (gh_C.mono (s_Model_lay d hF h) (fun r3776 m3777 hq => ?_))
    obtain ⟨hF, h⟩ := hq
    refine gh_aload_n gd_Model_accepts_36 0 rfl (by decide) ?_
    refine gf_63_53 gd_Model_accepts_37 gh_k1420 hF ?_
    refine gh_iload_n gd_Model_accepts_40 1 rfl ?_
    obtain ⟨q3778, h⟩ := h
    obtain ⟨q3779, h⟩ := h
    refine la_97 gd_Model_accepts_41 hF q3778 q3779 rfl ?_
    refine cv_Model_bit (d := d + 2) gd_Model_accepts_42 gh_k1817 (Nat.le_of_ble_eq_true rfl) (gh_C.pe (e_Model_bit (d + 2) (m3777 97 v1)) ?_)
    exact gh_ret0 rfl gd_Model_accepts_45 ⟨hF, h⟩
  have k3775 : ¬ (¬ ((m 63 24) = 0) ∧ (p_Model_isPlace v1 m)) → gh_T E (gh_yModel_accepts.cls, prog_14_method_76_code, 2, false, 0) (d + 3) 15 [(0, 2, 63), (1, 0, v1)] [] m (fun r m1 => gh_F m1 ∧ Q r m1) := by
    intro c
    have h := hB c
    refine gh_pick (L2 := [(0, 2, 63)]) [0] rfl ?_
    exact hJ15 hF h
  refine gh_zeq (tgt := 15) gd_Model_accepts_4 (by decide) (fun c3780 => ?_) (fun c3780 => ?_)
  · have hz : True := trivial
    exact k3775 (fun z => z.1 c3780)
  · have hz : True := trivial
    refine gh_aload_n gd_Model_accepts_7 0 rfl (by decide) ?_
    refine gh_iload_n gd_Model_accepts_8 1 rfl ?_
    refine cv_Model_isPlace (d := d + 2) gd_Model_accepts_9 gh_k1872 hF (Nat.le_of_ble_eq_true rfl) (gh_C.pe (e_Model_isPlace (d + 1) v1 hF) ?_)
    refine gh_bne (tgt := 32) gd_Model_accepts_12 (by decide) (fun c3781 => ?_) (fun c3781 => ?_)
    · have hz : True := trivial
      exact k3774 ⟨c3780, c3781⟩
    · have hz : True := trivial
      exact k3775 (fun z => c3781 z.2)
def f_Model_next2_73 (v1 : Int) (v3 : Int) (v4 : Int) (K55 : Int → Int → Prop) (m3788 : gh_M) (K73 : Int → Int → Prop) (v2 : Int) (v5 : Int) : Prop := ∃ J170 : Int → Prop, (∀ (v2' : Int), J170 v2' → gh_i (v3 + 1) ∧ K55 v2' (v3 + 1)) ∧ (((v5 ≤ v1) → (0 ≤ v3 ∧ 0 ≤ v4 ∧ v4 < 20 ∧ (((v3 % 4) < (m3788 80 v4)) → (0 ≤ v3 ∧ v3 < 80 ∧ (¬ ((m3788 81 v3) ≤ 0) → (0 ≤ v4 ∧ v4 < 20))))))) ∧ (((¬ (v5 ≤ v1) ∨ (¬ ((v3 % 4) < (m3788 80 v4)) ∨ (((m3788 81 v3) ≤ 0) ∨ ((m3788 83 v4) = 0)))) → J170 v2) ∧ (¬ (¬ (v5 ≤ v1) ∨ (¬ ((v3 % 4) < (m3788 80 v4)) ∨ (((m3788 81 v3) ≤ 0) ∨ ((m3788 83 v4) = 0)))) → 0 ≤ v4 ∧ v4 < 20 ∧ gh_i (9 * (m3788 79 v4)) ∧ gh_i ((9 * (m3788 79 v4)) + v5) ∧ 0 ≤ (9 * (m3788 79 v4)) + v5 ∧ ((9 * (m3788 79 v4)) + v5) < 72 ∧ ((¬ ((m3788 100 ((9 * (m3788 79 v4)) + v5)) = 0) → (0 ≤ v3 ∧ (gh_i (405 * v4) ∧ gh_i (81 * (v3 % 4)) ∧ gh_i ((405 * v4) + (81 * (v3 % 4))) ∧ gh_i (9 * v5) ∧ gh_i (((405 * v4) + (81 * (v3 % 4))) + (9 * v5)) ∧ gh_i ((((405 * v4) + (81 * (v3 % 4))) + (9 * v5)) + v1)) ∧ 0 ≤ ((((405 * v4) + (81 * (v3 % 4))) + (9 * v5)) + v1) ∧ (((((405 * v4) + (81 * (v3 % 4))) + (9 * v5)) + v1)) < 8100 ∧ (¬ ((m3788 98 (((((405 * v4) + (81 * (v3 % 4))) + (9 * v5)) + v1))) = 0) → (0 ≤ v3 ∧ v3 < 80))))) ∧ ∀ v2' : Int, v2' = gh_ior_f v2 (if (m3788 100 ((9 * (m3788 79 v4)) + v5)) = 0 then 0 else (if (m3788 98 (((((405 * v4) + (81 * (v3 % 4))) + (9 * v5)) + v1))) = 0 then 0 else (m3788 81 v3))) → gh_i (v5 + 1) ∧ K73 v2' (v5 + 1)))
def f_Model_next2_55 (v1 : Int) (Q : Int → gh_M → Prop) (m3788 : gh_M) (K55 : Int → Int → Prop) (v2 : Int) (v3 : Int) : Prop := gh_i (4 * (m3788 63 27)) ∧ ((v3 < (4 * (m3788 63 27)) → 0 ≤ v3 ∧ ∀ v4 : Int, v4 = v3 / 4 → gh_L2 (fun K73 v2 v5 => f_Model_next2_73 v1 v3 v4 K55 m3788 K73 v2 v5) v2 0) ∧ (¬ (v3 < (4 * (m3788 63 27))) → Q v2 m3788))
def w_Model_next2 (v1 : Int) (m : gh_M) (Q : Int → gh_M → Prop) : Prop := ∃ J15 : Prop, (J15 → Q (if (m 63 24) = 0 then (-1003) else (-1001)) m) ∧ (((¬ ((m 63 24) = 0) ∧ (p_Model_isPlace v1 m)) → w_Model_lay m (fun _ m3788 => 0 ≤ v1 ∧ v1 < 648 ∧ ∀ v2 : Int, v2 = (if (m3788 97 v1) = 0 then 0 else 67108864) → gh_L2 (fun K55 v2 v3 => f_Model_next2_55 v1 Q m3788 K55 v2 v3) v2 0)) ∧ (¬ (¬ ((m 63 24) = 0) ∧ (p_Model_isPlace v1 m)) → J15))
theorem b_Model_next2_73 {E : gh_E} {v1 : Int} {v3 : Int} {v4 : Int} {K55 : Int → Int → Prop} {Q : Int → gh_M → Prop} {K73 : Int → Int → Prop} (d : Nat) {m3788 : gh_M} (hK55 : ∀ (v2 : Int) (v3 : Int), gh_F m3788 → K55 v2 v3 → gh_T E (gh_yModel_next2.cls, prog_14_method_78_code, 6, false, 0) (d + 3) 55 [(0, 2, 63), (1, 0, v1), (2, 0, v2), (3, 0, v3)] [] m3788 (fun r m1 => gh_F m1 ∧ Q r m1)) (hK : ∀ (v2 : Int) (v5 : Int), gh_F m3788 → K73 v2 v5 → gh_T E (gh_yModel_next2.cls, prog_14_method_78_code, 6, false, 0) (d + 3) 73 [(0, 2, 63), (1, 0, v1), (2, 0, v2), (3, 0, v3), (4, 0, v4), (5, 0, v5)] [] m3788 (fun r m1 => gh_F m1 ∧ Q r m1)) (v2 : Int) (v5 : Int) (hF : gh_F m3788) (h : f_Model_next2_73 v1 v3 v4 K55 m3788 K73 v2 v5) : gh_T E (gh_yModel_next2.cls, prog_14_method_78_code, 6, false, 0) (d + 3) 73 [(0, 2, 63), (1, 0, v1), (2, 0, v2), (3, 0, v3), (4, 0, v4), (5, 0, v5)] [] m3788 (fun r m1 => gh_F m1 ∧ Q r m1) := by
  have hK73 := hK
  unfold f_Model_next2_73 at h
  refine gh_iload gd_Model_next2_73 5 rfl ?_
  refine gh_iload_n gd_Model_next2_75 1 rfl ?_
  obtain ⟨J170, hJ170, h⟩ := h
  have hJ170 : ∀ (v2' : Int), gh_F m3788 → J170 v2' → gh_T E (gh_yModel_next2.cls, prog_14_method_78_code, 6, false, 0) (d + 3) 170 [(0, 2, 63), (1, 0, v1), (2, 0, v2'), (3, 0, v3)] [] m3788 (fun r m1 => gh_F m1 ∧ Q r m1) := by
    intro v2' hF hj
    have h := hJ170 v2' hj
    obtain ⟨q3796, h⟩ := h
    refine gh_iinc (L2 := [(3, 0, v3 + 1), (0, 2, 63), (1, 0, v1), (2, 0, v2')]) gd_Model_next2_170 3 rfl q3796 (by decide) rfl ?_
    refine gh_goto (tgt := 55) gd_Model_next2_173 (by decide) ?_
    refine gh_pick (L2 := [(0, 2, 63), (1, 0, v1), (2, 0, v2'), (3, 0, v3 + 1)]) [1, 2, 3, 0] rfl ?_
    exact hK55 v2' (v3 + 1) hF h
  obtain ⟨hk, hA, hB⟩ := h
  have k3804 : (¬ (v5 ≤ v1) ∨ (¬ ((v3 % 4) < (m3788 80 v4)) ∨ (((m3788 81 v3) ≤ 0) ∨ ((m3788 83 v4) = 0)))) → gh_T E (gh_yModel_next2.cls, prog_14_method_78_code, 6, false, 0) (d + 3) 170 [(0, 2, 63), (1, 0, v1), (2, 0, v2), (3, 0, v3), (4, 0, v4), (5, 0, v5)] [] m3788 (fun r m1 => gh_F m1 ∧ Q r m1) := by
    intro c
    have h := hA c
    refine gh_pick (L2 := [(0, 2, 63), (1, 0, v1), (2, 0, v2), (3, 0, v3)]) [0, 1, 2, 3] rfl ?_
    exact hJ170 v2 hF h
  have k3805 : ¬ (¬ (v5 ≤ v1) ∨ (¬ ((v3 % 4) < (m3788 80 v4)) ∨ (((m3788 81 v3) ≤ 0) ∨ ((m3788 83 v4) = 0)))) → gh_T E (gh_yModel_next2.cls, prog_14_method_78_code, 6, false, 0) (d + 3) 111 [(0, 2, 63), (1, 0, v1), (2, 0, v2), (3, 0, v3), (4, 0, v4), (5, 0, v5)] [] m3788 (fun r m1 => gh_F m1 ∧ Q r m1) := by
    intro c
    have h := hB c
    refine gh_iload_n gd_Model_next2_111 2 rfl ?_
    refine gh_aload_n gd_Model_next2_112 0 rfl (by decide) ?_
    refine gf_63_56 gd_Model_next2_113 gh_k1423 hF ?_
    refine gh_bipush gd_Model_next2_116 (by decide) (gh_r0 rfl) ?_
    refine gh_aload_n gd_Model_next2_118 0 rfl (by decide) ?_
    refine gf_63_32 gd_Model_next2_119 gh_k1399 hF ?_
    refine gh_iload gd_Model_next2_122 4 rfl ?_
    obtain ⟨q3806, h⟩ := h
    obtain ⟨q3807, h⟩ := h
    refine la_79 gd_Model_next2_124 hF q3806 q3807 rfl ?_
    obtain ⟨q3808, h⟩ := h
    refine gh_imul gd_Model_next2_125 q3808 ?_
    refine gh_iload gd_Model_next2_126 5 rfl ?_
    obtain ⟨q3809, h⟩ := h
    refine gh_iadd gd_Model_next2_128 q3809 ?_
    obtain ⟨q3810, h⟩ := h
    obtain ⟨q3811, h⟩ := h
    refine la_100 gd_Model_next2_129 hF q3810 q3811 rfl ?_
    obtain ⟨hk, h⟩ := h
    have k3818 : ∀ x3819 : Int, x3819 = (if (m3788 100 ((9 * (m3788 79 v4)) + v5)) = 0 then 0 else (if (m3788 98 (((((405 * v4) + (81 * (v3 % 4))) + (9 * v5)) + v1))) = 0 then 0 else (m3788 81 v3))) → gh_T E (gh_yModel_next2.cls, prog_14_method_78_code, 6, false, 0) (d + 3) 162 [(0, 2, 63), (1, 0, v1), (2, 0, v2), (3, 0, v3), (4, 0, v4), (5, 0, v5)] [(0, x3819), (0, v2)] m3788 (fun r m1 => gh_F m1 ∧ Q r m1) := by
      rintro _ rfl
      refine gh_ior gd_Model_next2_162 ?_
      refine gh_name (fun v2' hn => ?_)
      have h := h v2' hn
      refine gh_istore_n (L2 := [(2, 0, v2'), (0, 2, 63), (1, 0, v1), (3, 0, v3), (4, 0, v4), (5, 0, v5)]) gd_Model_next2_163 (by decide) rfl ?_
      obtain ⟨q3820, h⟩ := h
      refine gh_iinc (L2 := [(5, 0, v5 + 1), (2, 0, v2'), (0, 2, 63), (1, 0, v1), (3, 0, v3), (4, 0, v4)]) gd_Model_next2_164 5 rfl q3820 (by decide) rfl ?_
      refine gh_goto (tgt := 73) gd_Model_next2_167 (by decide) ?_
      refine gh_pick (L2 := [(0, 2, 63), (1, 0, v1), (2, 0, v2'), (3, 0, v3), (4, 0, v4), (5, 0, v5 + 1)]) [2, 3, 1, 4, 5, 0] rfl ?_
      exact hK73 v2' (v5 + 1) hF h
    refine gh_zeq (tgt := 161) gd_Model_next2_130 (by decide) (fun c3821 => ?_) (fun c3821 => ?_)
    · have hz : True := trivial
      refine gh_iconst gd_Model_next2_161 (gh_r0 rfl) ?_
      exact k3818 _ (by rw [if_pos c3821])
    · have hz : True := trivial
      have hk := hk c3821
      refine gh_aload_n gd_Model_next2_133 0 rfl (by decide) ?_
      refine gf_63_54 gd_Model_next2_134 gh_k1421 hF ?_
      refine gh_iload gd_Model_next2_137 4 rfl ?_
      refine gh_iload_n gd_Model_next2_139 3 rfl ?_
      refine gh_iconst gd_Model_next2_140 (gh_r0 rfl) ?_
      obtain ⟨q3812, hk⟩ := hk
      refine gh_irem gd_Model_next2_141 q3812 (by decide) ?_
      refine gh_iload gd_Model_next2_142 5 rfl ?_
      refine gh_iload_n gd_Model_next2_144 1 rfl ?_
      obtain ⟨q3813, hk⟩ := hk
      refine cv_Model_begun (d := d + 2) gd_Model_next2_145 gh_k1904 (Nat.le_of_ble_eq_true rfl) (gh_C.pe (e_Model_begun (d + 2) v4 (v3 % 4) v5 v1 q3813) ?_)
      obtain ⟨q3814, hk⟩ := hk
      obtain ⟨q3815, hk⟩ := hk
      refine la_98 gd_Model_next2_148 hF q3814 q3815 rfl ?_
      refine gh_zeq (tgt := 161) gd_Model_next2_149 (by decide) (fun c3822 => ?_) (fun c3822 => ?_)
      · have hz : True := trivial
        refine gh_iconst gd_Model_next2_161 (gh_r0 rfl) ?_
        exact k3818 _ (by rw [if_neg c3821, if_pos c3822])
      · have hz : True := trivial
        have hk := hk c3822
        refine gh_aload_n gd_Model_next2_152 0 rfl (by decide) ?_
        refine gf_63_34 gd_Model_next2_153 gh_k1401 hF ?_
        refine gh_iload_n gd_Model_next2_156 3 rfl ?_
        obtain ⟨q3816, hk⟩ := hk
        have q3817 := hk
        refine la_81 gd_Model_next2_157 hF q3816 q3817 rfl ?_
        refine gh_goto (tgt := 162) gd_Model_next2_158 (by decide) ?_
        exact k3818 _ (by rw [if_neg c3821, if_neg c3822])
  refine gh_jgt (tgt := 170) gd_Model_next2_76 (by decide) (fun c3823 => ?_) (fun c3823 => ?_)
  · have hz : True := trivial
    have hk := hk c3823
    refine gh_iload_n gd_Model_next2_79 3 rfl ?_
    refine gh_iconst gd_Model_next2_80 (gh_r0 rfl) ?_
    obtain ⟨q3797, hk⟩ := hk
    refine gh_irem gd_Model_next2_81 q3797 (by decide) ?_
    refine gh_aload_n gd_Model_next2_82 0 rfl (by decide) ?_
    refine gf_63_33 gd_Model_next2_83 gh_k1400 hF ?_
    refine gh_iload gd_Model_next2_86 4 rfl ?_
    obtain ⟨q3798, hk⟩ := hk
    obtain ⟨q3799, hk⟩ := hk
    refine la_80 gd_Model_next2_88 hF q3798 q3799 rfl ?_
    refine gh_jge (tgt := 170) gd_Model_next2_89 (by decide) (fun c3824 => ?_) (fun c3824 => ?_)
    · have hz : True := trivial
      have hk := hk c3824
      refine gh_aload_n gd_Model_next2_92 0 rfl (by decide) ?_
      refine gf_63_34 gd_Model_next2_93 gh_k1401 hF ?_
      refine gh_iload_n gd_Model_next2_96 3 rfl ?_
      obtain ⟨q3800, hk⟩ := hk
      obtain ⟨q3801, hk⟩ := hk
      refine la_81 gd_Model_next2_97 hF q3800 q3801 rfl ?_
      refine gh_zle (tgt := 170) gd_Model_next2_98 (by decide) (fun c3825 => ?_) (fun c3825 => ?_)
      · have hz : True := trivial
        exact k3804 (Or.inr (Or.inr (Or.inl c3825)))
      · have hz : True := trivial
        have hk := hk c3825
        refine gh_aload_n gd_Model_next2_101 0 rfl (by decide) ?_
        refine gf_63_36 gd_Model_next2_102 gh_k1403 hF ?_
        refine gh_iload gd_Model_next2_105 4 rfl ?_
        obtain ⟨q3802, hk⟩ := hk
        have q3803 := hk
        refine la_83 gd_Model_next2_107 hF q3802 q3803 rfl ?_
        refine gh_zeq (tgt := 170) gd_Model_next2_108 (by decide) (fun c3826 => ?_) (fun c3826 => ?_)
        · have hz : True := trivial
          exact k3804 (Or.inr (Or.inr (Or.inr c3826)))
        · have hz : True := trivial
          exact k3805 (fun z => z.elim (fun w => w c3823) (fun z => z.elim (fun w => w c3824) (fun z => z.elim c3825 c3826)))
    · have hz : True := trivial
      exact k3804 (Or.inr (Or.inl c3824))
  · have hz : True := trivial
    exact k3804 (Or.inl c3823)
theorem b_Model_next2_55 {E : gh_E} {v1 : Int} {Q : Int → gh_M → Prop} {K55 : Int → Int → Prop} (d : Nat) {m3788 : gh_M} (hK : ∀ (v2 : Int) (v3 : Int), gh_F m3788 → K55 v2 v3 → gh_T E (gh_yModel_next2.cls, prog_14_method_78_code, 6, false, 0) (d + 3) 55 [(0, 2, 63), (1, 0, v1), (2, 0, v2), (3, 0, v3)] [] m3788 (fun r m1 => gh_F m1 ∧ Q r m1)) (v2 : Int) (v3 : Int) (hF : gh_F m3788) (h : f_Model_next2_55 v1 Q m3788 K55 v2 v3) : gh_T E (gh_yModel_next2.cls, prog_14_method_78_code, 6, false, 0) (d + 3) 55 [(0, 2, 63), (1, 0, v1), (2, 0, v2), (3, 0, v3)] [] m3788 (fun r m1 => gh_F m1 ∧ Q r m1) := by
  have hK55 := hK
  unfold f_Model_next2_55 at h
  refine gh_iload_n gd_Model_next2_55 3 rfl ?_
  refine gh_iconst gd_Model_next2_56 (gh_r0 rfl) ?_
  refine gh_aload_n gd_Model_next2_57 0 rfl (by decide) ?_
  refine gf_63_27 gd_Model_next2_58 gh_k1394 hF rfl ?_
  obtain ⟨q3793, h⟩ := h
  refine gh_imul gd_Model_next2_61 q3793 ?_
  obtain ⟨hA, hB⟩ := h
  refine gh_jge (tgt := 176) gd_Model_next2_62 (by decide) (fun c3794 => ?_) (fun c3794 => ?_)
  · have h := hA c3794
    refine gh_iload_n gd_Model_next2_65 3 rfl ?_
    refine gh_iconst gd_Model_next2_66 (gh_r0 rfl) ?_
    obtain ⟨q3795, h⟩ := h
    refine gh_idiv gd_Model_next2_67 q3795 (by decide) ?_
    refine gh_name (fun v4 hn => ?_)
    have h := h v4 hn
    refine gh_istore (L2 := [(4, 0, v4), (0, 2, 63), (1, 0, v1), (2, 0, v2), (3, 0, v3)]) gd_Model_next2_68 (by decide) rfl ?_
    refine gh_iconst gd_Model_next2_70 (gh_r0 rfl) ?_
    refine gh_istore (L2 := [(5, 0, 0), (4, 0, v4), (0, 2, 63), (1, 0, v1), (2, 0, v2), (3, 0, v3)]) gd_Model_next2_71 (by decide) rfl ?_
    refine gh_pick (L2 := [(0, 2, 63), (1, 0, v1), (2, 0, v2), (3, 0, v3), (4, 0, v4), (5, 0, 0)]) [2, 3, 4, 5, 1, 0] rfl ?_
    exact gh_L2_sound (T := fun v2 v5 => gh_T E (gh_yModel_next2.cls, prog_14_method_78_code, 6, false, 0) (d + 3) 73 [(0, 2, 63), (1, 0, v1), (2, 0, v2), (3, 0, v3), (4, 0, v4), (5, 0, v5)] [] m3788 (fun r m1 => gh_F m1 ∧ Q r m1)) (fun _ _ => gh_F m3788) (fun K73 v2 v5 hK hF h => b_Model_next2_73 d hK55 hK v2 v5 hF h) v2 0 hF h
  · have h := hB c3794
    refine gh_iload_n gd_Model_next2_176 2 rfl ?_
    exact gh_ret0 rfl gd_Model_next2_177 ⟨hF, h⟩
theorem s_Model_next2 {E : gh_E} {m : gh_M} {Q : Int → gh_M → Prop} (d : Nat) (v1 : Int) (hF : gh_F m) (h : w_Model_next2 v1 m Q) : gh_C E gh_yModel_next2 prog_14_method_78_code 6 (some .int) 0 (d + 3) [(2, 63), (0, v1)] m (fun r m1 => gh_F m1 ∧ Q r m1) := by
  refine gh_enter2 (L := [(0, 2, 63), (1, 0, v1)]) (by decide +kernel) gh_rt0 (Nat.le_of_ble_eq_true rfl) rfl rfl ?_
  unfold w_Model_next2 at h
  refine gh_aload_n gd_Model_next2_0 0 rfl (by decide) ?_
  refine gf_63_24 gd_Model_next2_1 gh_k1391 hF rfl ?_
  obtain ⟨J15, hJ15, h⟩ := h
  have hJ15 : gh_F m → J15 → gh_T E (gh_yModel_next2.cls, prog_14_method_78_code, 6, false, 0) (d + 3) 15 [(0, 2, 63)] [] m (fun r m1 => gh_F m1 ∧ Q r m1) := by
    intro hF hj
    have h := hJ15 hj
    refine gh_aload_n gd_Model_next2_15 0 rfl (by decide) ?_
    refine gf_63_24 gd_Model_next2_16 gh_k1391 hF rfl ?_
    have k3782 : ∀ x3783 : Int, x3783 = (if (m 63 24) = 0 then (-1003) else (-1001)) → gh_T E (gh_yModel_next2.cls, prog_14_method_78_code, 6, false, 0) (d + 3) 31 [(0, 2, 63)] [(0, x3783)] m (fun r m1 => gh_F m1 ∧ Q r m1) := by
      rintro _ rfl
      exact gh_ret0 rfl gd_Model_next2_31 ⟨hF, h⟩
    refine gh_zeq (tgt := 28) gd_Model_next2_19 (by decide) (fun c3784 => ?_) (fun c3784 => ?_)
    · have hz : True := trivial
      refine gh_sipush gd_Model_next2_28 (by decide) (gh_r0 rfl) ?_
      exact k3782 _ (by rw [if_pos c3784])
    · have hz : True := trivial
      refine gh_sipush gd_Model_next2_22 (by decide) (gh_r0 rfl) ?_
      refine gh_goto (tgt := 31) gd_Model_next2_25 (by decide) ?_
      exact k3782 _ (by rw [if_neg c3784])
  obtain ⟨hA, hB⟩ := h
  have k3785 : (¬ ((m 63 24) = 0) ∧ (p_Model_isPlace v1 m)) → gh_T E (gh_yModel_next2.cls, prog_14_method_78_code, 6, false, 0) (d + 3) 32 [(0, 2, 63), (1, 0, v1)] [] m (fun r m1 => gh_F m1 ∧ Q r m1) := by
    intro c
    have h := hA c
    refine gh_aload_n gd_Model_next2_32 0 rfl (by decide) ?_
    refine cv_Model_lay (d := d + 2) gd_Model_next2_33 gh_k1896 hF (Nat.le_of_ble_eq_true rfl) (gh_C.mono (s_Model_lay d hF h) (fun r3787 m3788 hq => ?_))
    obtain ⟨hF, h⟩ := hq
    refine gh_aload_n gd_Model_next2_36 0 rfl (by decide) ?_
    refine gf_63_53 gd_Model_next2_37 gh_k1420 hF ?_
    refine gh_iload_n gd_Model_next2_40 1 rfl ?_
    obtain ⟨q3789, h⟩ := h
    obtain ⟨q3790, h⟩ := h
    refine la_97 gd_Model_next2_41 hF q3789 q3790 rfl ?_
    have k3791 : ∀ x3792 : Int, x3792 = (if (m3788 97 v1) = 0 then 0 else 67108864) → gh_T E (gh_yModel_next2.cls, prog_14_method_78_code, 6, false, 0) (d + 3) 52 [(0, 2, 63), (1, 0, v1)] [(0, x3792)] m3788 (fun r m1 => gh_F m1 ∧ Q r m1) := by
      rintro _ rfl
      refine gh_name (fun v2 hn => ?_)
      have h := h v2 hn
      refine gh_istore_n (L2 := [(2, 0, v2), (0, 2, 63), (1, 0, v1)]) gd_Model_next2_52 (by decide) rfl ?_
      refine gh_iconst gd_Model_next2_53 (gh_r0 rfl) ?_
      refine gh_istore_n (L2 := [(3, 0, 0), (2, 0, v2), (0, 2, 63), (1, 0, v1)]) gd_Model_next2_54 (by decide) rfl ?_
      refine gh_pick (L2 := [(0, 2, 63), (1, 0, v1), (2, 0, v2), (3, 0, 0)]) [2, 3, 1, 0] rfl ?_
      exact gh_L2_sound (T := fun v2 v3 => gh_T E (gh_yModel_next2.cls, prog_14_method_78_code, 6, false, 0) (d + 3) 55 [(0, 2, 63), (1, 0, v1), (2, 0, v2), (3, 0, v3)] [] m3788 (fun r m1 => gh_F m1 ∧ Q r m1)) (fun _ _ => gh_F m3788) (fun K55 v2 v3 hK hF h => b_Model_next2_55 d hK v2 v3 hF h) v2 0 hF h
    refine gh_zeq (tgt := 51) gd_Model_next2_42 (by decide) (fun c3827 => ?_) (fun c3827 => ?_)
    · have hz : True := trivial
      refine gh_iconst gd_Model_next2_51 (gh_r0 rfl) ?_
      exact k3791 _ (by rw [if_pos c3827])
    · have hz : True := trivial
      refine gh_ldcw (n := 67108864) gd_Model_next2_45 gh_k1764 (by decide) (gh_r0 rfl) ?_
      refine gh_goto (tgt := 52) gd_Model_next2_48 (by decide) ?_
      exact k3791 _ (by rw [if_neg c3827])
  have k3786 : ¬ (¬ ((m 63 24) = 0) ∧ (p_Model_isPlace v1 m)) → gh_T E (gh_yModel_next2.cls, prog_14_method_78_code, 6, false, 0) (d + 3) 15 [(0, 2, 63), (1, 0, v1)] [] m (fun r m1 => gh_F m1 ∧ Q r m1) := by
    intro c
    have h := hB c
    refine gh_pick (L2 := [(0, 2, 63)]) [0] rfl ?_
    exact hJ15 hF h
  refine gh_zeq (tgt := 15) gd_Model_next2_4 (by decide) (fun c3828 => ?_) (fun c3828 => ?_)
  · have hz : True := trivial
    exact k3786 (fun z => z.1 c3828)
  · have hz : True := trivial
    refine gh_aload_n gd_Model_next2_7 0 rfl (by decide) ?_
    refine gh_iload_n gd_Model_next2_8 1 rfl ?_
    refine cv_Model_isPlace (d := d + 2) gd_Model_next2_9 gh_k1872 hF (Nat.le_of_ble_eq_true rfl) (gh_C.pe (e_Model_isPlace (d + 1) v1 hF) ?_)
    refine gh_bne (tgt := 32) gd_Model_next2_12 (by decide) (fun c3829 => ?_) (fun c3829 => ?_)
    · have hz : True := trivial
      exact k3785 ⟨c3828, c3829⟩
    · have hz : True := trivial
      exact k3786 (fun z => c3829 z.2)
def f_Model_items_65 (v1 : Int) (v3 : Int) (v4 : Int) (K51 : Int → Int → Prop) (m3836 : gh_M) (K65 : Int → Int → Prop) (v2 : Int) (v5 : Int) : Prop := ((v5 ≤ v1 → k_Model_isItemAt v3 v4 v5 v1 m3836 ∧ gh_i (v2 + (if (p_Model_isItemAt v3 v4 v5 v1 m3836) then (1:Int) else 0)) ∧ ∀ v2' : Int, v2' = v2 + (if (p_Model_isItemAt v3 v4 v5 v1 m3836) then (1:Int) else 0) → gh_i (v5 + 1) ∧ K65 v2' (v5 + 1)) ∧ (¬ (v5 ≤ v1) → gh_i (v4 + 1) ∧ K51 v2 (v4 + 1)))
def f_Model_items_51 (v1 : Int) (v3 : Int) (K40 : Int → Int → Prop) (m3836 : gh_M) (K51 : Int → Int → Prop) (v2 : Int) (v4 : Int) : Prop := 0 ≤ v3 ∧ v3 < 20 ∧ ((v4 ≤ (m3836 80 v3) → gh_L2 (fun K65 v2 v5 => f_Model_items_65 v1 v3 v4 K51 m3836 K65 v2 v5) v2 0) ∧ (¬ (v4 ≤ (m3836 80 v3)) → gh_i (v3 + 1) ∧ K40 v2 (v3 + 1)))
def f_Model_items_40 (v1 : Int) (Q : Int → gh_M → Prop) (m3836 : gh_M) (K40 : Int → Int → Prop) (v2 : Int) (v3 : Int) : Prop := ((v3 < (m3836 63 27) → gh_L2 (fun K51 v2 v4 => f_Model_items_51 v1 v3 K40 m3836 K51 v2 v4) v2 0) ∧ (¬ (v3 < (m3836 63 27)) → Q v2 m3836))
def w_Model_items (v1 : Int) (m : gh_M) (Q : Int → gh_M → Prop) : Prop := ∃ J15 : Prop, (J15 → Q (if (m 63 24) = 0 then (-1003) else (-1001)) m) ∧ (((¬ ((m 63 24) = 0) ∧ (p_Model_isPlace v1 m)) → w_Model_lay m (fun _ m3836 => gh_L2 (fun K40 v2 v3 => f_Model_items_40 v1 Q m3836 K40 v2 v3) 0 0)) ∧ (¬ (¬ ((m 63 24) = 0) ∧ (p_Model_isPlace v1 m)) → J15))
theorem b_Model_items_65 {E : gh_E} {v1 : Int} {v3 : Int} {v4 : Int} {K51 : Int → Int → Prop} {Q : Int → gh_M → Prop} {K65 : Int → Int → Prop} (d : Nat) {m3836 : gh_M} (hK51 : ∀ (v2 : Int) (v4 : Int), gh_F m3836 → K51 v2 v4 → gh_T E (gh_yModel_items.cls, prog_14_method_79_code, 6, false, 0) (d + 3) 51 [(0, 2, 63), (1, 0, v1), (2, 0, v2), (3, 0, v3), (4, 0, v4)] [] m3836 (fun r m1 => gh_F m1 ∧ Q r m1)) (hK : ∀ (v2 : Int) (v5 : Int), gh_F m3836 → K65 v2 v5 → gh_T E (gh_yModel_items.cls, prog_14_method_79_code, 6, false, 0) (d + 3) 65 [(0, 2, 63), (1, 0, v1), (2, 0, v2), (3, 0, v3), (4, 0, v4), (5, 0, v5)] [] m3836 (fun r m1 => gh_F m1 ∧ Q r m1)) (v2 : Int) (v5 : Int) (hF : gh_F m3836) (h : f_Model_items_65 v1 v3 v4 K51 m3836 K65 v2 v5) : gh_T E (gh_yModel_items.cls, prog_14_method_79_code, 6, false, 0) (d + 3) 65 [(0, 2, 63), (1, 0, v1), (2, 0, v2), (3, 0, v3), (4, 0, v4), (5, 0, v5)] [] m3836 (fun r m1 => gh_F m1 ∧ Q r m1) := by
  have hK65 := hK
  unfold f_Model_items_65 at h
  refine gh_iload gd_Model_items_65 5 rfl ?_
  refine gh_iload_n gd_Model_items_67 1 rfl ?_
  obtain ⟨hA, hB⟩ := h
  refine gh_jgt (tgt := 98) gd_Model_items_68 (by decide) (fun c3841 => ?_) (fun c3841 => ?_)
  · have h := hA c3841
    refine gh_iload_n gd_Model_items_71 2 rfl ?_
    refine gh_aload_n gd_Model_items_72 0 rfl (by decide) ?_
    refine gh_iload_n gd_Model_items_73 3 rfl ?_
    refine gh_iload gd_Model_items_74 4 rfl ?_
    refine gh_iload gd_Model_items_76 5 rfl ?_
    refine gh_iload_n gd_Model_items_78 1 rfl ?_
    obtain ⟨q3842, h⟩ := h
    refine cv_Model_isItemAt (d := d + 2) gd_Model_items_79 gh_k1927 hF (Nat.le_of_ble_eq_true rfl) (gh_C.pe (e_Model_isItemAt (d + 1) v3 v4 v5 v1 hF q3842) ?_)
    have k3843 : ∀ x3844 : Int, x3844 = (if (p_Model_isItemAt v3 v4 v5 v1 m3836) then (1:Int) else 0) → gh_T E (gh_yModel_items.cls, prog_14_method_79_code, 6, false, 0) (d + 3) 90 [(0, 2, 63), (1, 0, v1), (2, 0, v2), (3, 0, v3), (4, 0, v4), (5, 0, v5)] [(0, x3844), (0, v2)] m3836 (fun r m1 => gh_F m1 ∧ Q r m1) := by
      rintro _ rfl
      obtain ⟨q3845, h⟩ := h
      refine gh_iadd gd_Model_items_90 q3845 ?_
      refine gh_name (fun v2' hn => ?_)
      have h := h v2' hn
      refine gh_istore_n (L2 := [(2, 0, v2'), (0, 2, 63), (1, 0, v1), (3, 0, v3), (4, 0, v4), (5, 0, v5)]) gd_Model_items_91 (by decide) rfl ?_
      obtain ⟨q3846, h⟩ := h
      refine gh_iinc (L2 := [(5, 0, v5 + 1), (2, 0, v2'), (0, 2, 63), (1, 0, v1), (3, 0, v3), (4, 0, v4)]) gd_Model_items_92 5 rfl q3846 (by decide) rfl ?_
      refine gh_goto (tgt := 65) gd_Model_items_95 (by decide) ?_
      refine gh_pick (L2 := [(0, 2, 63), (1, 0, v1), (2, 0, v2'), (3, 0, v3), (4, 0, v4), (5, 0, v5 + 1)]) [2, 3, 1, 4, 5, 0] rfl ?_
      exact hK65 v2' (v5 + 1) hF h
    refine gh_beq (tgt := 89) gd_Model_items_82 (by decide) (fun c3847 => ?_) (fun c3847 => ?_)
    · have hz : True := trivial
      refine gh_iconst gd_Model_items_85 (gh_r0 rfl) ?_
      refine gh_goto (tgt := 90) gd_Model_items_86 (by decide) ?_
      exact k3843 _ (if_pos (c := (p_Model_isItemAt v3 v4 v5 v1 m3836)) c3847).symm
    · have hz : True := trivial
      refine gh_iconst gd_Model_items_89 (gh_r0 rfl) ?_
      exact k3843 _ (if_neg (c := (p_Model_isItemAt v3 v4 v5 v1 m3836)) c3847).symm
  · have h := hB c3841
    obtain ⟨q3848, h⟩ := h
    refine gh_iinc (L2 := [(4, 0, v4 + 1), (0, 2, 63), (1, 0, v1), (2, 0, v2), (3, 0, v3), (5, 0, v5)]) gd_Model_items_98 4 rfl q3848 (by decide) rfl ?_
    refine gh_goto (tgt := 51) gd_Model_items_101 (by decide) ?_
    refine gh_pick (L2 := [(0, 2, 63), (1, 0, v1), (2, 0, v2), (3, 0, v3), (4, 0, v4 + 1)]) [1, 2, 3, 4, 0] rfl ?_
    exact hK51 v2 (v4 + 1) hF h
theorem b_Model_items_51 {E : gh_E} {v1 : Int} {v3 : Int} {K40 : Int → Int → Prop} {Q : Int → gh_M → Prop} {K51 : Int → Int → Prop} (d : Nat) {m3836 : gh_M} (hK40 : ∀ (v2 : Int) (v3 : Int), gh_F m3836 → K40 v2 v3 → gh_T E (gh_yModel_items.cls, prog_14_method_79_code, 6, false, 0) (d + 3) 40 [(0, 2, 63), (1, 0, v1), (2, 0, v2), (3, 0, v3)] [] m3836 (fun r m1 => gh_F m1 ∧ Q r m1)) (hK : ∀ (v2 : Int) (v4 : Int), gh_F m3836 → K51 v2 v4 → gh_T E (gh_yModel_items.cls, prog_14_method_79_code, 6, false, 0) (d + 3) 51 [(0, 2, 63), (1, 0, v1), (2, 0, v2), (3, 0, v3), (4, 0, v4)] [] m3836 (fun r m1 => gh_F m1 ∧ Q r m1)) (v2 : Int) (v4 : Int) (hF : gh_F m3836) (h : f_Model_items_51 v1 v3 K40 m3836 K51 v2 v4) : gh_T E (gh_yModel_items.cls, prog_14_method_79_code, 6, false, 0) (d + 3) 51 [(0, 2, 63), (1, 0, v1), (2, 0, v2), (3, 0, v3), (4, 0, v4)] [] m3836 (fun r m1 => gh_F m1 ∧ Q r m1) := by
  have hK51 := hK
  unfold f_Model_items_51 at h
  refine gh_iload gd_Model_items_51 4 rfl ?_
  refine gh_aload_n gd_Model_items_53 0 rfl (by decide) ?_
  refine gf_63_33 gd_Model_items_54 gh_k1400 hF ?_
  refine gh_iload_n gd_Model_items_57 3 rfl ?_
  obtain ⟨q3838, h⟩ := h
  obtain ⟨q3839, h⟩ := h
  refine la_80 gd_Model_items_58 hF q3838 q3839 rfl ?_
  obtain ⟨hA, hB⟩ := h
  refine gh_jgt (tgt := 104) gd_Model_items_59 (by decide) (fun c3840 => ?_) (fun c3840 => ?_)
  · have h := hA c3840
    refine gh_iconst gd_Model_items_62 (gh_r0 rfl) ?_
    refine gh_istore (L2 := [(5, 0, 0), (0, 2, 63), (1, 0, v1), (2, 0, v2), (3, 0, v3), (4, 0, v4)]) gd_Model_items_63 (by decide) rfl ?_
    refine gh_pick (L2 := [(0, 2, 63), (1, 0, v1), (2, 0, v2), (3, 0, v3), (4, 0, v4), (5, 0, 0)]) [1, 2, 3, 4, 5, 0] rfl ?_
    exact gh_L2_sound (T := fun v2 v5 => gh_T E (gh_yModel_items.cls, prog_14_method_79_code, 6, false, 0) (d + 3) 65 [(0, 2, 63), (1, 0, v1), (2, 0, v2), (3, 0, v3), (4, 0, v4), (5, 0, v5)] [] m3836 (fun r m1 => gh_F m1 ∧ Q r m1)) (fun _ _ => gh_F m3836) (fun K65 v2 v5 hK hF h => b_Model_items_65 d hK51 hK v2 v5 hF h) v2 0 hF h
  · have h := hB c3840
    obtain ⟨q3849, h⟩ := h
    refine gh_iinc (L2 := [(3, 0, v3 + 1), (0, 2, 63), (1, 0, v1), (2, 0, v2), (4, 0, v4)]) gd_Model_items_104 3 rfl q3849 (by decide) rfl ?_
    refine gh_goto (tgt := 40) gd_Model_items_107 (by decide) ?_
    refine gh_pick (L2 := [(0, 2, 63), (1, 0, v1), (2, 0, v2), (3, 0, v3 + 1)]) [1, 2, 3, 0] rfl ?_
    exact hK40 v2 (v3 + 1) hF h
theorem b_Model_items_40 {E : gh_E} {v1 : Int} {Q : Int → gh_M → Prop} {K40 : Int → Int → Prop} (d : Nat) {m3836 : gh_M} (hK : ∀ (v2 : Int) (v3 : Int), gh_F m3836 → K40 v2 v3 → gh_T E (gh_yModel_items.cls, prog_14_method_79_code, 6, false, 0) (d + 3) 40 [(0, 2, 63), (1, 0, v1), (2, 0, v2), (3, 0, v3)] [] m3836 (fun r m1 => gh_F m1 ∧ Q r m1)) (v2 : Int) (v3 : Int) (hF : gh_F m3836) (h : f_Model_items_40 v1 Q m3836 K40 v2 v3) : gh_T E (gh_yModel_items.cls, prog_14_method_79_code, 6, false, 0) (d + 3) 40 [(0, 2, 63), (1, 0, v1), (2, 0, v2), (3, 0, v3)] [] m3836 (fun r m1 => gh_F m1 ∧ Q r m1) := by
  have hK40 := hK
  unfold f_Model_items_40 at h
  refine gh_iload_n gd_Model_items_40 3 rfl ?_
  refine gh_aload_n gd_Model_items_41 0 rfl (by decide) ?_
  refine gf_63_27 gd_Model_items_42 gh_k1394 hF rfl ?_
  obtain ⟨hA, hB⟩ := h
  refine gh_jge (tgt := 110) gd_Model_items_45 (by decide) (fun c3837 => ?_) (fun c3837 => ?_)
  · have h := hA c3837
    refine gh_iconst gd_Model_items_48 (gh_r0 rfl) ?_
    refine gh_istore (L2 := [(4, 0, 0), (0, 2, 63), (1, 0, v1), (2, 0, v2), (3, 0, v3)]) gd_Model_items_49 (by decide) rfl ?_
    refine gh_pick (L2 := [(0, 2, 63), (1, 0, v1), (2, 0, v2), (3, 0, v3), (4, 0, 0)]) [1, 2, 3, 4, 0] rfl ?_
    exact gh_L2_sound (T := fun v2 v4 => gh_T E (gh_yModel_items.cls, prog_14_method_79_code, 6, false, 0) (d + 3) 51 [(0, 2, 63), (1, 0, v1), (2, 0, v2), (3, 0, v3), (4, 0, v4)] [] m3836 (fun r m1 => gh_F m1 ∧ Q r m1)) (fun _ _ => gh_F m3836) (fun K51 v2 v4 hK hF h => b_Model_items_51 d hK40 hK v2 v4 hF h) v2 0 hF h
  · have h := hB c3837
    refine gh_iload_n gd_Model_items_110 2 rfl ?_
    exact gh_ret0 rfl gd_Model_items_111 ⟨hF, h⟩
theorem s_Model_items {E : gh_E} {m : gh_M} {Q : Int → gh_M → Prop} (d : Nat) (v1 : Int) (hF : gh_F m) (h : w_Model_items v1 m Q) : gh_C E gh_yModel_items prog_14_method_79_code 6 (some .int) 0 (d + 3) [(2, 63), (0, v1)] m (fun r m1 => gh_F m1 ∧ Q r m1) := by
  refine gh_enter2 (L := [(0, 2, 63), (1, 0, v1)]) (by decide +kernel) gh_rt0 (Nat.le_of_ble_eq_true rfl) rfl rfl ?_
  unfold w_Model_items at h
  refine gh_aload_n gd_Model_items_0 0 rfl (by decide) ?_
  refine gf_63_24 gd_Model_items_1 gh_k1391 hF rfl ?_
  obtain ⟨J15, hJ15, h⟩ := h
  have hJ15 : gh_F m → J15 → gh_T E (gh_yModel_items.cls, prog_14_method_79_code, 6, false, 0) (d + 3) 15 [(0, 2, 63)] [] m (fun r m1 => gh_F m1 ∧ Q r m1) := by
    intro hF hj
    have h := hJ15 hj
    refine gh_aload_n gd_Model_items_15 0 rfl (by decide) ?_
    refine gf_63_24 gd_Model_items_16 gh_k1391 hF rfl ?_
    have k3830 : ∀ x3831 : Int, x3831 = (if (m 63 24) = 0 then (-1003) else (-1001)) → gh_T E (gh_yModel_items.cls, prog_14_method_79_code, 6, false, 0) (d + 3) 31 [(0, 2, 63)] [(0, x3831)] m (fun r m1 => gh_F m1 ∧ Q r m1) := by
      rintro _ rfl
      exact gh_ret0 rfl gd_Model_items_31 ⟨hF, h⟩
    refine gh_zeq (tgt := 28) gd_Model_items_19 (by decide) (fun c3832 => ?_) (fun c3832 => ?_)
    · have hz : True := trivial
      refine gh_sipush gd_Model_items_28 (by decide) (gh_r0 rfl) ?_
      exact k3830 _ (by rw [if_pos c3832])
    · have hz : True := trivial
      refine gh_sipush gd_Model_items_22 (by decide) (gh_r0 rfl) ?_
      refine gh_goto (tgt := 31) gd_Model_items_25 (by decide) ?_
      exact k3830 _ (by rw [if_neg c3832])
  obtain ⟨hA, hB⟩ := h
  have k3833 : (¬ ((m 63 24) = 0) ∧ (p_Model_isPlace v1 m)) → gh_T E (gh_yModel_items.cls, prog_14_method_79_code, 6, false, 0) (d + 3) 32 [(0, 2, 63), (1, 0, v1)] [] m (fun r m1 => gh_F m1 ∧ Q r m1) := by
    intro c
    have h := hA c
    refine gh_aload_n gd_Model_items_32 0 rfl (by decide) ?_
    refine cv_Model_lay (d := d + 2) gd_Model_items_33 gh_k1896 hF (Nat.le_of_ble_eq_true rfl) (gh_C.mono (s_Model_lay d hF h) (fun r3835 m3836 hq => ?_))
    obtain ⟨hF, h⟩ := hq
    refine gh_iconst gd_Model_items_36 (gh_r0 rfl) ?_
    refine gh_istore_n (L2 := [(2, 0, 0), (0, 2, 63), (1, 0, v1)]) gd_Model_items_37 (by decide) rfl ?_
    refine gh_iconst gd_Model_items_38 (gh_r0 rfl) ?_
    refine gh_istore_n (L2 := [(3, 0, 0), (2, 0, 0), (0, 2, 63), (1, 0, v1)]) gd_Model_items_39 (by decide) rfl ?_
    refine gh_pick (L2 := [(0, 2, 63), (1, 0, v1), (2, 0, 0), (3, 0, 0)]) [2, 3, 1, 0] rfl ?_
    exact gh_L2_sound (T := fun v2 v3 => gh_T E (gh_yModel_items.cls, prog_14_method_79_code, 6, false, 0) (d + 3) 40 [(0, 2, 63), (1, 0, v1), (2, 0, v2), (3, 0, v3)] [] m3836 (fun r m1 => gh_F m1 ∧ Q r m1)) (fun _ _ => gh_F m3836) (fun K40 v2 v3 hK hF h => b_Model_items_40 d hK v2 v3 hF h) 0 0 hF h
  have k3834 : ¬ (¬ ((m 63 24) = 0) ∧ (p_Model_isPlace v1 m)) → gh_T E (gh_yModel_items.cls, prog_14_method_79_code, 6, false, 0) (d + 3) 15 [(0, 2, 63), (1, 0, v1)] [] m (fun r m1 => gh_F m1 ∧ Q r m1) := by
    intro c
    have h := hB c
    refine gh_pick (L2 := [(0, 2, 63)]) [0] rfl ?_
    exact hJ15 hF h
  refine gh_zeq (tgt := 15) gd_Model_items_4 (by decide) (fun c3850 => ?_) (fun c3850 => ?_)
  · have hz : True := trivial
    exact k3834 (fun z => z.1 c3850)
  · have hz : True := trivial
    refine gh_aload_n gd_Model_items_7 0 rfl (by decide) ?_
    refine gh_iload_n gd_Model_items_8 1 rfl ?_
    refine cv_Model_isPlace (d := d + 2) gd_Model_items_9 gh_k1872 hF (Nat.le_of_ble_eq_true rfl) (gh_C.pe (e_Model_isPlace (d + 1) v1 hF) ?_)
    refine gh_bne (tgt := 32) gd_Model_items_12 (by decide) (fun c3851 => ?_) (fun c3851 => ?_)
    · have hz : True := trivial
      exact k3833 ⟨c3850, c3851⟩
    · have hz : True := trivial
      exact k3834 (fun z => c3851 z.2)
def w_Model_isItem (v1 : Int) (v2 : Int) (v3 : Int) (v4 : Int) (m : gh_M) (Q : Int → gh_M → Prop) : Prop := ∃ J36 : Prop, (J36 → ((¬ (v2 < 0) → ((¬ ((m 63 24) = 0) → (0 ≤ v1 ∧ v1 < 20))))) ∧ (((¬ (v2 < 0) ∧ (((m 63 24) = 0) ∨ (v2 ≤ (m 80 v1)))) → (((m 63 24) = 0 → Q (-1003) m) ∧ (¬ ((m 63 24) = 0) → w_Model_lay m (fun _ m3858 => k_Model_isItemAt v1 v2 v3 v4 m3858 ∧ Q (if p_Model_isItemAt v1 v2 v3 v4 m3858 then (1:Int) else 0) m3858)))) ∧ (¬ (¬ (v2 < 0) ∧ (((m 63 24) = 0) ∨ (v2 ≤ (m 80 v1)))) → Q (-1002) m))) ∧ ((¬ ((m 63 24) = 0) → (k_Model_isRule v1 m))) ∧ (((((m 63 24) = 0) ∨ ((p_Model_isRule v1 m) ∧ ((p_Model_isPlace v3 m) ∧ (p_Model_isPlace v4 m)))) → J36) ∧ (¬ (((m 63 24) = 0) ∨ ((p_Model_isRule v1 m) ∧ ((p_Model_isPlace v3 m) ∧ (p_Model_isPlace v4 m)))) → Q (-1001) m))
theorem s_Model_isItem {E : gh_E} {m : gh_M} {Q : Int → gh_M → Prop} (d : Nat) (v1 : Int) (v2 : Int) (v3 : Int) (v4 : Int) (hF : gh_F m) (h : w_Model_isItem v1 v2 v3 v4 m Q) : gh_C E gh_yModel_isItem prog_14_method_80_code 5 (some .int) 0 (d + 3) [(2, 63), (0, v1), (0, v2), (0, v3), (0, v4)] m (fun r m1 => gh_F m1 ∧ Q r m1) := by
  refine gh_enter2 (L := [(0, 2, 63), (1, 0, v1), (2, 0, v2), (3, 0, v3), (4, 0, v4)]) (by decide +kernel) gh_rt0 (Nat.le_of_ble_eq_true rfl) rfl rfl ?_
  unfold w_Model_isItem at h
  refine gh_aload_n gd_Model_isItem_0 0 rfl (by decide) ?_
  refine gf_63_24 gd_Model_isItem_1 gh_k1391 hF rfl ?_
  obtain ⟨J36, hJ36, h⟩ := h
  have hJ36 : gh_F m → J36 → gh_T E (gh_yModel_isItem.cls, prog_14_method_80_code, 5, false, 0) (d + 3) 36 [(0, 2, 63), (1, 0, v1), (2, 0, v2), (3, 0, v3), (4, 0, v4)] [] m (fun r m1 => gh_F m1 ∧ Q r m1) := by
    intro hF hj
    have h := hJ36 hj
    refine gh_iload_n gd_Model_isItem_36 2 rfl ?_
    obtain ⟨hk, hA, hB⟩ := h
    have k3854 : (¬ (v2 < 0) ∧ (((m 63 24) = 0) ∨ (v2 ≤ (m 80 v1)))) → gh_T E (gh_yModel_isItem.cls, prog_14_method_80_code, 5, false, 0) (d + 3) 61 [(0, 2, 63), (1, 0, v1), (2, 0, v2), (3, 0, v3), (4, 0, v4)] [] m (fun r m1 => gh_F m1 ∧ Q r m1) := by
      intro c
      have h := hA c
      refine gh_aload_n gd_Model_isItem_61 0 rfl (by decide) ?_
      refine gf_63_24 gd_Model_isItem_62 gh_k1391 hF rfl ?_
      obtain ⟨hA, hB⟩ := h
      refine gh_zne (tgt := 72) gd_Model_isItem_65 (by decide) (fun c3856 => ?_) (fun c3856 => ?_)
      · have h := hA c3856
        refine gh_sipush gd_Model_isItem_68 (by decide) (gh_r0 rfl) ?_
        exact gh_ret0 rfl gd_Model_isItem_71 ⟨hF, h⟩
      · have h := hB c3856
        refine gh_aload_n gd_Model_isItem_72 0 rfl (by decide) ?_
        refine cv_Model_lay (d := d + 2) gd_Model_isItem_73 gh_k1896 hF (Nat.le_of_ble_eq_true rfl) (gh_C.mono (s_Model_lay d hF h) (fun r3857 m3858 hq => ?_))
        obtain ⟨hF, h⟩ := hq
        refine gh_aload_n gd_Model_isItem_76 0 rfl (by decide) ?_
        refine gh_iload_n gd_Model_isItem_77 1 rfl ?_
        refine gh_iload_n gd_Model_isItem_78 2 rfl ?_
        refine gh_iload_n gd_Model_isItem_79 3 rfl ?_
        refine gh_iload gd_Model_isItem_80 4 rfl ?_
        obtain ⟨q3859, h⟩ := h
        refine cv_Model_isItemAt (d := d + 2) gd_Model_isItem_82 gh_k1927 hF (Nat.le_of_ble_eq_true rfl) (gh_C.pe (e_Model_isItemAt (d + 1) v1 v2 v3 v4 hF q3859) ?_)
        refine cv_Model_bit (d := d + 2) gd_Model_isItem_85 gh_k1817 (Nat.le_of_ble_eq_true rfl) (gh_C.pe (eb_Model_bit (d + 2) (P := p_Model_isItemAt v1 v2 v3 v4 m3858)) ?_)
        exact gh_ret0 rfl gd_Model_isItem_88 ⟨hF, h⟩
    have k3855 : ¬ (¬ (v2 < 0) ∧ (((m 63 24) = 0) ∨ (v2 ≤ (m 80 v1)))) → gh_T E (gh_yModel_isItem.cls, prog_14_method_80_code, 5, false, 0) (d + 3) 57 [(0, 2, 63), (1, 0, v1), (2, 0, v2), (3, 0, v3), (4, 0, v4)] [] m (fun r m1 => gh_F m1 ∧ Q r m1) := by
      intro c
      have h := hB c
      refine gh_sipush gd_Model_isItem_57 (by decide) (gh_r0 rfl) ?_
      exact gh_ret0 rfl gd_Model_isItem_60 ⟨hF, h⟩
    refine gh_zlt (tgt := 57) gd_Model_isItem_37 (by decide) (fun c3860 => ?_) (fun c3860 => ?_)
    · have hz : True := trivial
      exact k3855 (fun z => z.1 c3860)
    · have hz : True := trivial
      have hk := hk c3860
      refine gh_aload_n gd_Model_isItem_40 0 rfl (by decide) ?_
      refine gf_63_24 gd_Model_isItem_41 gh_k1391 hF rfl ?_
      refine gh_zeq (tgt := 61) gd_Model_isItem_44 (by decide) (fun c3861 => ?_) (fun c3861 => ?_)
      · have hz : True := trivial
        exact k3854 ⟨c3860, (Or.inl c3861)⟩
      · have hz : True := trivial
        have hk := hk c3861
        refine gh_iload_n gd_Model_isItem_47 2 rfl ?_
        refine gh_aload_n gd_Model_isItem_48 0 rfl (by decide) ?_
        refine gf_63_33 gd_Model_isItem_49 gh_k1400 hF ?_
        refine gh_iload_n gd_Model_isItem_52 1 rfl ?_
        obtain ⟨q3852, hk⟩ := hk
        have q3853 := hk
        refine la_80 gd_Model_isItem_53 hF q3852 q3853 rfl ?_
        refine gh_jle (tgt := 61) gd_Model_isItem_54 (by decide) (fun c3862 => ?_) (fun c3862 => ?_)
        · have hz : True := trivial
          exact k3854 ⟨c3860, (Or.inr c3862)⟩
        · have hz : True := trivial
          exact k3855 (fun z => (fun z => z.elim c3861 c3862) z.2)
  obtain ⟨hk, hA, hB⟩ := h
  have k3864 : (((m 63 24) = 0) ∨ ((p_Model_isRule v1 m) ∧ ((p_Model_isPlace v3 m) ∧ (p_Model_isPlace v4 m)))) → gh_T E (gh_yModel_isItem.cls, prog_14_method_80_code, 5, false, 0) (d + 3) 36 [(0, 2, 63), (1, 0, v1), (2, 0, v2), (3, 0, v3), (4, 0, v4)] [] m (fun r m1 => gh_F m1 ∧ Q r m1) := by
    intro c
    have h := hA c
    exact hJ36 hF h
  have k3865 : ¬ (((m 63 24) = 0) ∨ ((p_Model_isRule v1 m) ∧ ((p_Model_isPlace v3 m) ∧ (p_Model_isPlace v4 m)))) → gh_T E (gh_yModel_isItem.cls, prog_14_method_80_code, 5, false, 0) (d + 3) 32 [(0, 2, 63), (1, 0, v1), (2, 0, v2), (3, 0, v3), (4, 0, v4)] [] m (fun r m1 => gh_F m1 ∧ Q r m1) := by
    intro c
    have h := hB c
    refine gh_sipush gd_Model_isItem_32 (by decide) (gh_r0 rfl) ?_
    exact gh_ret0 rfl gd_Model_isItem_35 ⟨hF, h⟩
  refine gh_zeq (tgt := 36) gd_Model_isItem_4 (by decide) (fun c3866 => ?_) (fun c3866 => ?_)
  · have hz : True := trivial
    exact k3864 (Or.inl c3866)
  · have hz : True := trivial
    have hk := hk c3866
    refine gh_aload_n gd_Model_isItem_7 0 rfl (by decide) ?_
    refine gh_iload_n gd_Model_isItem_8 1 rfl ?_
    have q3863 := hk
    refine cv_Model_isRule (d := d + 2) gd_Model_isItem_9 gh_k1832 hF (Nat.le_of_ble_eq_true rfl) (gh_C.pe (e_Model_isRule (d + 1) v1 hF q3863) ?_)
    refine gh_beq (tgt := 32) gd_Model_isItem_12 (by decide) (fun c3867 => ?_) (fun c3867 => ?_)
    · have hz : True := trivial
      refine gh_aload_n gd_Model_isItem_15 0 rfl (by decide) ?_
      refine gh_iload_n gd_Model_isItem_16 3 rfl ?_
      refine cv_Model_isPlace (d := d + 2) gd_Model_isItem_17 gh_k1872 hF (Nat.le_of_ble_eq_true rfl) (gh_C.pe (e_Model_isPlace (d + 1) v3 hF) ?_)
      refine gh_beq (tgt := 32) gd_Model_isItem_20 (by decide) (fun c3868 => ?_) (fun c3868 => ?_)
      · have hz : True := trivial
        refine gh_aload_n gd_Model_isItem_23 0 rfl (by decide) ?_
        refine gh_iload gd_Model_isItem_24 4 rfl ?_
        refine cv_Model_isPlace (d := d + 2) gd_Model_isItem_26 gh_k1872 hF (Nat.le_of_ble_eq_true rfl) (gh_C.pe (e_Model_isPlace (d + 1) v4 hF) ?_)
        refine gh_bne (tgt := 36) gd_Model_isItem_29 (by decide) (fun c3869 => ?_) (fun c3869 => ?_)
        · have hz : True := trivial
          exact k3864 (Or.inr ⟨c3867, ⟨c3868, c3869⟩⟩)
        · have hz : True := trivial
          exact k3865 (fun z => z.elim c3866 (fun z => (fun z => c3869 z.2) z.2))
      · have hz : True := trivial
        exact k3865 (fun z => z.elim c3866 (fun z => (fun z => c3868 z.1) z.2))
    · have hz : True := trivial
      exact k3865 (fun z => z.elim c3866 (fun z => c3867 z.1))
def w_Model_makes (v1 : Int) (v2 : Int) (v3 : Int) (m : gh_M) (Q : Int → gh_M → Prop) : Prop := ∃ J35 : Prop, (J35 → ((v2 ≤ v3 → (((m 63 24) = 0 → Q (-1003) m) ∧ (¬ ((m 63 24) = 0) → w_Model_lay m (fun _ m3873 => gh_i (81 * v1) ∧ gh_i (9 * v2) ∧ gh_i ((81 * v1) + (9 * v2)) ∧ gh_i (((81 * v1) + (9 * v2)) + v3) ∧ 0 ≤ ((81 * v1) + (9 * v2)) + v3 ∧ (((81 * v1) + (9 * v2)) + v3) < 648 ∧ Q (if p_Model_bit (m3873 97 (((81 * v1) + (9 * v2)) + v3)) then (1:Int) else 0) m3873)))) ∧ (¬ (v2 ≤ v3) → Q (-1002) m))) ∧ ((¬ ((m 63 24) = 0) → (k_Model_isName v1 m))) ∧ (((((m 63 24) = 0) ∨ ((p_Model_isName v1 m) ∧ ((p_Model_isPlace v2 m) ∧ (p_Model_isPlace v3 m)))) → J35) ∧ (¬ (((m 63 24) = 0) ∨ ((p_Model_isName v1 m) ∧ ((p_Model_isPlace v2 m) ∧ (p_Model_isPlace v3 m)))) → Q (-1001) m))
theorem s_Model_makes {E : gh_E} {m : gh_M} {Q : Int → gh_M → Prop} (d : Nat) (v1 : Int) (v2 : Int) (v3 : Int) (hF : gh_F m) (h : w_Model_makes v1 v2 v3 m Q) : gh_C E gh_yModel_makes prog_14_method_81_code 4 (some .int) 0 (d + 3) [(2, 63), (0, v1), (0, v2), (0, v3)] m (fun r m1 => gh_F m1 ∧ Q r m1) := by
  refine gh_enter2 (L := [(0, 2, 63), (1, 0, v1), (2, 0, v2), (3, 0, v3)]) (by decide +kernel) gh_rt0 (Nat.le_of_ble_eq_true rfl) rfl rfl ?_
  unfold w_Model_makes at h
  refine gh_aload_n gd_Model_makes_0 0 rfl (by decide) ?_
  refine gf_63_24 gd_Model_makes_1 gh_k1391 hF rfl ?_
  obtain ⟨J35, hJ35, h⟩ := h
  have hJ35 : gh_F m → J35 → gh_T E (gh_yModel_makes.cls, prog_14_method_81_code, 4, false, 0) (d + 3) 35 [(0, 2, 63), (1, 0, v1), (2, 0, v2), (3, 0, v3)] [] m (fun r m1 => gh_F m1 ∧ Q r m1) := by
    intro hF hj
    have h := hJ35 hj
    refine gh_iload_n gd_Model_makes_35 2 rfl ?_
    refine gh_iload_n gd_Model_makes_36 3 rfl ?_
    obtain ⟨hA, hB⟩ := h
    refine gh_jle (tgt := 44) gd_Model_makes_37 (by decide) (fun c3870 => ?_) (fun c3870 => ?_)
    · have h := hA c3870
      refine gh_aload_n gd_Model_makes_44 0 rfl (by decide) ?_
      refine gf_63_24 gd_Model_makes_45 gh_k1391 hF rfl ?_
      obtain ⟨hA, hB⟩ := h
      refine gh_zne (tgt := 55) gd_Model_makes_48 (by decide) (fun c3871 => ?_) (fun c3871 => ?_)
      · have h := hA c3871
        refine gh_sipush gd_Model_makes_51 (by decide) (gh_r0 rfl) ?_
        exact gh_ret0 rfl gd_Model_makes_54 ⟨hF, h⟩
      · have h := hB c3871
        refine gh_aload_n gd_Model_makes_55 0 rfl (by decide) ?_
        refine cv_Model_lay (d := d + 2) gd_Model_makes_56 gh_k1896 hF (Nat.le_of_ble_eq_true rfl) (gh_C.mono (s_Model_lay d hF h) (fun r3872 m3873 hq => ?_))
        obtain ⟨hF, h⟩ := hq
        refine gh_aload_n gd_Model_makes_59 0 rfl (by decide) ?_
        refine gf_63_53 gd_Model_makes_60 gh_k1420 hF ?_
        refine gh_bipush gd_Model_makes_63 (by decide) (gh_r0 rfl) ?_
        refine gh_iload_n gd_Model_makes_65 1 rfl ?_
        obtain ⟨q3874, h⟩ := h
        refine gh_imul gd_Model_makes_66 q3874 ?_
        refine gh_bipush gd_Model_makes_67 (by decide) (gh_r0 rfl) ?_
        refine gh_iload_n gd_Model_makes_69 2 rfl ?_
        obtain ⟨q3875, h⟩ := h
        refine gh_imul gd_Model_makes_70 q3875 ?_
        obtain ⟨q3876, h⟩ := h
        refine gh_iadd gd_Model_makes_71 q3876 ?_
        refine gh_iload_n gd_Model_makes_72 3 rfl ?_
        obtain ⟨q3877, h⟩ := h
        refine gh_iadd gd_Model_makes_73 q3877 ?_
        obtain ⟨q3878, h⟩ := h
        obtain ⟨q3879, h⟩ := h
        refine la_97 gd_Model_makes_74 hF q3878 q3879 rfl ?_
        refine cv_Model_bit (d := d + 2) gd_Model_makes_75 gh_k1817 (Nat.le_of_ble_eq_true rfl) (gh_C.pe (e_Model_bit (d + 2) (m3873 97 (((81 * v1) + (9 * v2)) + v3))) ?_)
        exact gh_ret0 rfl gd_Model_makes_78 ⟨hF, h⟩
    · have h := hB c3870
      refine gh_sipush gd_Model_makes_40 (by decide) (gh_r0 rfl) ?_
      exact gh_ret0 rfl gd_Model_makes_43 ⟨hF, h⟩
  obtain ⟨hk, hA, hB⟩ := h
  have k3881 : (((m 63 24) = 0) ∨ ((p_Model_isName v1 m) ∧ ((p_Model_isPlace v2 m) ∧ (p_Model_isPlace v3 m)))) → gh_T E (gh_yModel_makes.cls, prog_14_method_81_code, 4, false, 0) (d + 3) 35 [(0, 2, 63), (1, 0, v1), (2, 0, v2), (3, 0, v3)] [] m (fun r m1 => gh_F m1 ∧ Q r m1) := by
    intro c
    have h := hA c
    exact hJ35 hF h
  have k3882 : ¬ (((m 63 24) = 0) ∨ ((p_Model_isName v1 m) ∧ ((p_Model_isPlace v2 m) ∧ (p_Model_isPlace v3 m)))) → gh_T E (gh_yModel_makes.cls, prog_14_method_81_code, 4, false, 0) (d + 3) 31 [(0, 2, 63), (1, 0, v1), (2, 0, v2), (3, 0, v3)] [] m (fun r m1 => gh_F m1 ∧ Q r m1) := by
    intro c
    have h := hB c
    refine gh_sipush gd_Model_makes_31 (by decide) (gh_r0 rfl) ?_
    exact gh_ret0 rfl gd_Model_makes_34 ⟨hF, h⟩
  refine gh_zeq (tgt := 35) gd_Model_makes_4 (by decide) (fun c3883 => ?_) (fun c3883 => ?_)
  · have hz : True := trivial
    exact k3881 (Or.inl c3883)
  · have hz : True := trivial
    have hk := hk c3883
    refine gh_aload_n gd_Model_makes_7 0 rfl (by decide) ?_
    refine gh_iload_n gd_Model_makes_8 1 rfl ?_
    have q3880 := hk
    refine cv_Model_isName (d := d + 2) gd_Model_makes_9 gh_k1813 hF (Nat.le_of_ble_eq_true rfl) (gh_C.pe (e_Model_isName (d + 1) v1 hF q3880) ?_)
    refine gh_beq (tgt := 31) gd_Model_makes_12 (by decide) (fun c3884 => ?_) (fun c3884 => ?_)
    · have hz : True := trivial
      refine gh_aload_n gd_Model_makes_15 0 rfl (by decide) ?_
      refine gh_iload_n gd_Model_makes_16 2 rfl ?_
      refine cv_Model_isPlace (d := d + 2) gd_Model_makes_17 gh_k1872 hF (Nat.le_of_ble_eq_true rfl) (gh_C.pe (e_Model_isPlace (d + 1) v2 hF) ?_)
      refine gh_beq (tgt := 31) gd_Model_makes_20 (by decide) (fun c3885 => ?_) (fun c3885 => ?_)
      · have hz : True := trivial
        refine gh_aload_n gd_Model_makes_23 0 rfl (by decide) ?_
        refine gh_iload_n gd_Model_makes_24 3 rfl ?_
        refine cv_Model_isPlace (d := d + 2) gd_Model_makes_25 gh_k1872 hF (Nat.le_of_ble_eq_true rfl) (gh_C.pe (e_Model_isPlace (d + 1) v3 hF) ?_)
        refine gh_bne (tgt := 35) gd_Model_makes_28 (by decide) (fun c3886 => ?_) (fun c3886 => ?_)
        · have hz : True := trivial
          exact k3881 (Or.inr ⟨c3884, ⟨c3885, c3886⟩⟩)
        · have hz : True := trivial
          exact k3882 (fun z => z.elim c3883 (fun z => (fun z => c3886 z.2) z.2))
      · have hz : True := trivial
        exact k3882 (fun z => z.elim c3883 (fun z => (fun z => c3885 z.1) z.2))
    · have hz : True := trivial
      exact k3882 (fun z => z.elim c3883 (fun z => c3884 z.1))
def f_Model_findWants_128 (v1 : Int) (v3 : Int) (v4 : Int) (v5 : Int) (v6 : Int) (v7 : Int) (K64 : Int → Int → gh_M → Prop) (K128 : Int → Int → gh_M → Prop) (v2 : Int) (v8 : Int) (m : gh_M) : Prop := ((v8 ≤ v1 → 0 ≤ v3 ∧ v3 < 80 ∧ gh_i ((-1) - (m 81 v3)) ∧ gh_i (9 * ((-1) - (m 81 v3))) ∧ gh_i ((9 * ((-1) - (m 81 v3))) + v8) ∧ ∀ v9 : Int, v9 = (9 * ((-1) - (m 81 v3))) + v8 → (gh_i (405 * v4) ∧ gh_i (81 * v5) ∧ gh_i ((405 * v4) + (81 * v5)) ∧ gh_i (9 * v6) ∧ gh_i (((405 * v4) + (81 * v5)) + (9 * v6)) ∧ gh_i ((((405 * v4) + (81 * v5)) + (9 * v6)) + v8)) ∧ 0 ≤ ((((405 * v4) + (81 * v5)) + (9 * v6)) + v8) ∧ (((((405 * v4) + (81 * v5)) + (9 * v6)) + v8)) < 8100 ∧ ∃ J192 : Int → gh_M → Prop, (∀ (v2' : Int) (m : gh_M), J192 v2' m → gh_i (v8 + 1) ∧ K128 v2' (v8 + 1) m) ∧ ((¬ ((m 98 (((((405 * v4) + (81 * v5)) + (9 * v6)) + v8))) = 0) → (0 ≤ v9 ∧ v9 < 72))) ∧ (((¬ ((m 98 (((((405 * v4) + (81 * v5)) + (9 * v6)) + v8))) = 0) ∧ (v7 < (m 101 v9))) → 0 ≤ v9 ∧ v9 < 72 ∧ J192 1 (gh_u m 101 v9 v7)) ∧ (¬ (¬ ((m 98 (((((405 * v4) + (81 * v5)) + (9 * v6)) + v8))) = 0) ∧ (v7 < (m 101 v9))) → J192 v2 m))) ∧ (¬ (v8 ≤ v1) → gh_i (v6 + 1) ∧ K64 v2 (v6 + 1) m))
def f_Model_findWants_64 (v1 : Int) (v3 : Int) (v4 : Int) (v5 : Int) (K41 : Int → Int → gh_M → Prop) (K64 : Int → Int → gh_M → Prop) (v2 : Int) (v6 : Int) (m : gh_M) : Prop := ∃ J204 : Int → gh_M → Prop, (∀ (v2' : Int) (m : gh_M), J204 v2' m → gh_i (v3 + 1) ∧ K41 v2' (v3 + 1) m) ∧ (((v6 ≤ v1) → (0 ≤ v4 ∧ v4 < 20 ∧ ((v5 < (m 80 v4)) → (0 ≤ v3 ∧ v3 < 80))))) ∧ ((((v6 ≤ v1) ∧ ((v5 < (m 80 v4)) ∧ ((m 81 v3) < 0))) → gh_i (v5 + 1) ∧ w_Model_leastOf v4 (v5 + 1) m (fun r3907 => 0 ≤ v4 ∧ v4 < 20 ∧ gh_i (9 * (m 79 v4)) ∧ gh_i ((9 * (m 79 v4)) + v6) ∧ 0 ≤ (9 * (m 79 v4)) + v6 ∧ ((9 * (m 79 v4)) + v6) < 72 ∧ k_Model_sumOf r3907 (m 101 ((9 * (m 79 v4)) + v6)) ∧ ∀ v7 : Int, v7 = x_Model_sumOf r3907 (m 101 ((9 * (m 79 v4)) + v6)) → gh_M2 (fun K128 v2 v8 m => f_Model_findWants_128 v1 v3 v4 v5 v6 v7 K64 K128 v2 v8 m) v2 v6 m)) ∧ (¬ ((v6 ≤ v1) ∧ ((v5 < (m 80 v4)) ∧ ((m 81 v3) < 0))) → J204 v2 m))
def f_Model_findWants_41 (v1 : Int) (K33 : Int → gh_M → Prop) (K41 : Int → Int → gh_M → Prop) (v2 : Int) (v3 : Int) (m : gh_M) : Prop := gh_i (4 * (m 63 27)) ∧ ((v3 < (4 * (m 63 27)) → 0 ≤ v3 ∧ ∀ v4 : Int, v4 = v3 / 4 → 0 ≤ v3 ∧ ∀ v5 : Int, v5 = v3 % 4 → gh_M2 (fun K64 v2 v6 m => f_Model_findWants_64 v1 v3 v4 v5 K41 K64 v2 v6 m) v2 0 m) ∧ (¬ (v3 < (4 * (m 63 27))) → K33 v2 m))
def f_Model_findWants_33 (v1 : Int) (Q : Int → gh_M → Prop) (K33 : Int → gh_M → Prop) (v2 : Int) (m : gh_M) : Prop := ((v2 = 0 → Q 0 m) ∧ (¬ (v2 = 0) → gh_M2 (fun K41 v2 v3 m => f_Model_findWants_41 v1 K33 K41 v2 v3 m) 0 0 m))
def f_Model_findWants_2 (v1 : Int) (Q : Int → gh_M → Prop) (K2 : Int → gh_M → Prop) (v2 : Int) (m : gh_M) : Prop := ((v2 < 72 → 0 ≤ v2 ∧ v2 < 72 ∧ gh_i (v2 + 1) ∧ K2 (v2 + 1) (gh_u m 101 v2 (if v2 = 0 then 0 else 1000000000))) ∧ (¬ (v2 < 72) → gh_M1 (fun K33 v2 m => f_Model_findWants_33 v1 Q K33 v2 m) 1 m))
def w_Model_findWants (v1 : Int) (m : gh_M) (Q : Int → gh_M → Prop) : Prop := gh_M1 (fun K2 v2 m => f_Model_findWants_2 v1 Q K2 v2 m) 0 m
theorem b_Model_findWants_128 {E : gh_E} {v1 : Int} {v3 : Int} {v4 : Int} {v5 : Int} {v6 : Int} {v7 : Int} {K64 : Int → Int → gh_M → Prop} {Q : Int → gh_M → Prop} {K128 : Int → Int → gh_M → Prop} (d : Nat) (hK64 : ∀ (v2 : Int) (v6 : Int) (m : gh_M), gh_F m → K64 v2 v6 m → gh_T E (gh_yModel_findWants.cls, prog_14_method_83_code, 10, false, 9) (d + 1) 64 [(0, 2, 63), (1, 0, v1), (2, 0, v2), (3, 0, v3), (4, 0, v4), (5, 0, v5), (6, 0, v6)] [] m (fun r m1 => gh_F m1 ∧ Q r m1)) (hK : ∀ (v2 : Int) (v8 : Int) (m : gh_M), gh_F m → K128 v2 v8 m → gh_T E (gh_yModel_findWants.cls, prog_14_method_83_code, 10, false, 9) (d + 1) 128 [(0, 2, 63), (1, 0, v1), (2, 0, v2), (3, 0, v3), (4, 0, v4), (5, 0, v5), (6, 0, v6), (7, 0, v7), (8, 0, v8)] [] m (fun r m1 => gh_F m1 ∧ Q r m1)) (v2 : Int) (v8 : Int) (m : gh_M) (hF : gh_F m) (h : f_Model_findWants_128 v1 v3 v4 v5 v6 v7 K64 K128 v2 v8 m) : gh_T E (gh_yModel_findWants.cls, prog_14_method_83_code, 10, false, 9) (d + 1) 128 [(0, 2, 63), (1, 0, v1), (2, 0, v2), (3, 0, v3), (4, 0, v4), (5, 0, v5), (6, 0, v6), (7, 0, v7), (8, 0, v8)] [] m (fun r m1 => gh_F m1 ∧ Q r m1) := by
  have hK128 := hK
  unfold f_Model_findWants_128 at h
  refine gh_iload gd_Model_findWants_128 8 rfl ?_
  refine gh_iload_n gd_Model_findWants_130 1 rfl ?_
  obtain ⟨hA, hB⟩ := h
  refine gh_jgt (tgt := 198) gd_Model_findWants_131 (by decide) (fun c3916 => ?_) (fun c3916 => ?_)
  · have h := hA c3916
    refine gh_bipush gd_Model_findWants_134 (by decide) (gh_r0 rfl) ?_
    refine gh_iconst gd_Model_findWants_136 (gh_r0 rfl) ?_
    refine gh_aload_n gd_Model_findWants_137 0 rfl (by decide) ?_
    refine gf_63_34 gd_Model_findWants_138 gh_k1401 hF ?_
    refine gh_iload_n gd_Model_findWants_141 3 rfl ?_
    obtain ⟨q3917, h⟩ := h
    obtain ⟨q3918, h⟩ := h
    refine la_81 gd_Model_findWants_142 hF q3917 q3918 rfl ?_
    obtain ⟨q3919, h⟩ := h
    refine gh_isub gd_Model_findWants_143 q3919 ?_
    obtain ⟨q3920, h⟩ := h
    refine gh_imul gd_Model_findWants_144 q3920 ?_
    refine gh_iload gd_Model_findWants_145 8 rfl ?_
    obtain ⟨q3921, h⟩ := h
    refine gh_iadd gd_Model_findWants_147 q3921 ?_
    refine gh_name (fun v9 hn => ?_)
    have h := h v9 hn
    refine gh_istore (L2 := [(9, 0, v9), (0, 2, 63), (1, 0, v1), (2, 0, v2), (3, 0, v3), (4, 0, v4), (5, 0, v5), (6, 0, v6), (7, 0, v7), (8, 0, v8)]) gd_Model_findWants_148 (by decide) rfl ?_
    refine gh_aload_n gd_Model_findWants_150 1 rfl (by decide) ?_
    refine gf_63_54 gd_Model_findWants_151 gh_k1421 hF ?_
    refine gh_iload gd_Model_findWants_154 5 rfl ?_
    refine gh_iload gd_Model_findWants_156 6 rfl ?_
    refine gh_iload gd_Model_findWants_158 7 rfl ?_
    refine gh_iload gd_Model_findWants_160 9 rfl ?_
    obtain ⟨q3922, h⟩ := h
    refine cv_Model_begun (d := d) gd_Model_findWants_162 gh_k1904 (Nat.le_of_ble_eq_true rfl) (gh_C.pe (e_Model_begun d v4 v5 v6 v8 q3922) ?_)
    obtain ⟨q3923, h⟩ := h
    obtain ⟨q3924, h⟩ := h
    refine la_98 gd_Model_findWants_165 hF q3923 q3924 rfl ?_
    obtain ⟨J192, hJ192, h⟩ := h
    have hJ192 : ∀ (v2' : Int) (m : gh_M), gh_F m → J192 v2' m → gh_T E (gh_yModel_findWants.cls, prog_14_method_83_code, 10, false, 9) (d + 1) 192 [(0, 2, 63), (1, 0, v1), (2, 0, v2'), (3, 0, v3), (4, 0, v4), (5, 0, v5), (6, 0, v6), (7, 0, v7), (8, 0, v8)] [] m (fun r m1 => gh_F m1 ∧ Q r m1) := by
      intro v2' m hF hj
      have h := hJ192 v2' m hj
      obtain ⟨q3925, h⟩ := h
      refine gh_iinc (L2 := [(8, 0, v8 + 1), (0, 2, 63), (1, 0, v1), (2, 0, v2'), (3, 0, v3), (4, 0, v4), (5, 0, v5), (6, 0, v6), (7, 0, v7)]) gd_Model_findWants_192 8 rfl q3925 (by decide) rfl ?_
      refine gh_goto (tgt := 128) gd_Model_findWants_195 (by decide) ?_
      refine gh_pick (L2 := [(0, 2, 63), (1, 0, v1), (2, 0, v2'), (3, 0, v3), (4, 0, v4), (5, 0, v5), (6, 0, v6), (7, 0, v7), (8, 0, v8 + 1)]) [1, 2, 3, 4, 5, 6, 7, 8, 0] rfl ?_
      exact hK128 v2' (v8 + 1) m hF h
    obtain ⟨hk, hA, hB⟩ := h
    have k3928 : (¬ ((m 98 (((((405 * v4) + (81 * v5)) + (9 * v6)) + v8))) = 0) ∧ (v7 < (m 101 v9))) → gh_T E (gh_yModel_findWants.cls, prog_14_method_83_code, 10, false, 9) (d + 1) 181 [(9, 0, v9), (0, 2, 63), (1, 0, v1), (2, 0, v2), (3, 0, v3), (4, 0, v4), (5, 0, v5), (6, 0, v6), (7, 0, v7), (8, 0, v8)] [] m (fun r m1 => gh_F m1 ∧ Q r m1) := by
      intro c
      have h := hA c
      refine gh_aload_n gd_Model_findWants_181 1 rfl (by decide) ?_
      refine gf_63_57 gd_Model_findWants_182 gh_k1424 hF ?_
      refine gh_iload gd_Model_findWants_185 0 rfl ?_
      refine gh_iload gd_Model_findWants_187 8 rfl ?_
      obtain ⟨q3930, h⟩ := h
      obtain ⟨q3931, h⟩ := h
      refine sa_101 gd_Model_findWants_189 hF q3930 q3931 (fun hF => ?_)
      refine gh_iconst gd_Model_findWants_190 (gh_r0 rfl) ?_
      refine gh_istore_n (L2 := [(2, 0, 1), (9, 0, v9), (0, 2, 63), (1, 0, v1), (3, 0, v3), (4, 0, v4), (5, 0, v5), (6, 0, v6), (7, 0, v7), (8, 0, v8)]) gd_Model_findWants_191 (by decide) rfl ?_
      refine gh_pick (L2 := [(0, 2, 63), (1, 0, v1), (2, 0, 1), (3, 0, v3), (4, 0, v4), (5, 0, v5), (6, 0, v6), (7, 0, v7), (8, 0, v8)]) [2, 3, 0, 4, 5, 6, 7, 8, 9] rfl ?_
      exact hJ192 1 (gh_u m 101 v9 v7) hF h
    have k3929 : ¬ (¬ ((m 98 (((((405 * v4) + (81 * v5)) + (9 * v6)) + v8))) = 0) ∧ (v7 < (m 101 v9))) → gh_T E (gh_yModel_findWants.cls, prog_14_method_83_code, 10, false, 9) (d + 1) 192 [(9, 0, v9), (0, 2, 63), (1, 0, v1), (2, 0, v2), (3, 0, v3), (4, 0, v4), (5, 0, v5), (6, 0, v6), (7, 0, v7), (8, 0, v8)] [] m (fun r m1 => gh_F m1 ∧ Q r m1) := by
      intro c
      have h := hB c
      refine gh_pick (L2 := [(0, 2, 63), (1, 0, v1), (2, 0, v2), (3, 0, v3), (4, 0, v4), (5, 0, v5), (6, 0, v6), (7, 0, v7), (8, 0, v8)]) [1, 2, 3, 4, 5, 6, 7, 8, 9] rfl ?_
      exact hJ192 v2 m hF h
    refine gh_zeq (tgt := 192) gd_Model_findWants_166 (by decide) (fun c3932 => ?_) (fun c3932 => ?_)
    · have hz : True := trivial
      exact k3929 (fun z => z.1 c3932)
    · have hz : True := trivial
      have hk := hk c3932
      refine gh_iload gd_Model_findWants_169 8 rfl ?_
      refine gh_aload_n gd_Model_findWants_171 1 rfl (by decide) ?_
      refine gf_63_57 gd_Model_findWants_172 gh_k1424 hF ?_
      refine gh_iload gd_Model_findWants_175 0 rfl ?_
      obtain ⟨q3926, hk⟩ := hk
      have q3927 := hk
      refine la_101 gd_Model_findWants_177 hF q3926 q3927 rfl ?_
      refine gh_jge (tgt := 192) gd_Model_findWants_178 (by decide) (fun c3933 => ?_) (fun c3933 => ?_)
      · have hz : True := trivial
        exact k3928 ⟨c3932, c3933⟩
      · have hz : True := trivial
        exact k3929 (fun z => c3933 z.2)
  · have h := hB c3916
    obtain ⟨q3934, h⟩ := h
    refine gh_iinc (L2 := [(6, 0, v6 + 1), (0, 2, 63), (1, 0, v1), (2, 0, v2), (3, 0, v3), (4, 0, v4), (5, 0, v5), (7, 0, v7), (8, 0, v8)]) gd_Model_findWants_198 6 rfl q3934 (by decide) rfl ?_
    refine gh_goto (tgt := 64) gd_Model_findWants_201 (by decide) ?_
    refine gh_pick (L2 := [(0, 2, 63), (1, 0, v1), (2, 0, v2), (3, 0, v3), (4, 0, v4), (5, 0, v5), (6, 0, v6 + 1)]) [1, 2, 3, 4, 5, 6, 0] rfl ?_
    exact hK64 v2 (v6 + 1) m hF h
theorem b_Model_findWants_64 {E : gh_E} {v1 : Int} {v3 : Int} {v4 : Int} {v5 : Int} {K41 : Int → Int → gh_M → Prop} {Q : Int → gh_M → Prop} {K64 : Int → Int → gh_M → Prop} (d : Nat) (hK41 : ∀ (v2 : Int) (v3 : Int) (m : gh_M), gh_F m → K41 v2 v3 m → gh_T E (gh_yModel_findWants.cls, prog_14_method_83_code, 10, false, 9) (d + 1) 41 [(0, 2, 63), (1, 0, v1), (2, 0, v2), (3, 0, v3)] [] m (fun r m1 => gh_F m1 ∧ Q r m1)) (hK : ∀ (v2 : Int) (v6 : Int) (m : gh_M), gh_F m → K64 v2 v6 m → gh_T E (gh_yModel_findWants.cls, prog_14_method_83_code, 10, false, 9) (d + 1) 64 [(0, 2, 63), (1, 0, v1), (2, 0, v2), (3, 0, v3), (4, 0, v4), (5, 0, v5), (6, 0, v6)] [] m (fun r m1 => gh_F m1 ∧ Q r m1)) (v2 : Int) (v6 : Int) (m : gh_M) (hF : gh_F m) (h : f_Model_findWants_64 v1 v3 v4 v5 K41 K64 v2 v6 m) : gh_T E (gh_yModel_findWants.cls, prog_14_method_83_code, 10, false, 9) (d + 1) 64 [(0, 2, 63), (1, 0, v1), (2, 0, v2), (3, 0, v3), (4, 0, v4), (5, 0, v5), (6, 0, v6)] [] m (fun r m1 => gh_F m1 ∧ Q r m1) := by
  have hK64 := hK
  unfold f_Model_findWants_64 at h
  refine gh_iload gd_Model_findWants_64 6 rfl ?_
  refine gh_iload_n gd_Model_findWants_66 1 rfl ?_
  obtain ⟨J204, hJ204, h⟩ := h
  have hJ204 : ∀ (v2' : Int) (m : gh_M), gh_F m → J204 v2' m → gh_T E (gh_yModel_findWants.cls, prog_14_method_83_code, 10, false, 9) (d + 1) 204 [(0, 2, 63), (1, 0, v1), (2, 0, v2'), (3, 0, v3)] [] m (fun r m1 => gh_F m1 ∧ Q r m1) := by
    intro v2' m hF hj
    have h := hJ204 v2' m hj
    obtain ⟨q3899, h⟩ := h
    refine gh_iinc (L2 := [(3, 0, v3 + 1), (0, 2, 63), (1, 0, v1), (2, 0, v2')]) gd_Model_findWants_204 3 rfl q3899 (by decide) rfl ?_
    refine gh_goto (tgt := 41) gd_Model_findWants_207 (by decide) ?_
    refine gh_pick (L2 := [(0, 2, 63), (1, 0, v1), (2, 0, v2'), (3, 0, v3 + 1)]) [1, 2, 3, 0] rfl ?_
    exact hK41 v2' (v3 + 1) m hF h
  obtain ⟨hk, hA, hB⟩ := h
  have k3904 : ((v6 ≤ v1) ∧ ((v5 < (m 80 v4)) ∧ ((m 81 v3) < 0))) → gh_T E (gh_yModel_findWants.cls, prog_14_method_83_code, 10, false, 9) (d + 1) 91 [(0, 2, 63), (1, 0, v1), (2, 0, v2), (3, 0, v3), (4, 0, v4), (5, 0, v5), (6, 0, v6)] [] m (fun r m1 => gh_F m1 ∧ Q r m1) := by
    intro c
    have h := hA c
    refine gh_aload_n gd_Model_findWants_91 0 rfl (by decide) ?_
    refine gh_iload gd_Model_findWants_92 4 rfl ?_
    refine gh_iload gd_Model_findWants_94 5 rfl ?_
    refine gh_iconst gd_Model_findWants_96 (gh_r0 rfl) ?_
    obtain ⟨q3906, h⟩ := h
    refine gh_iadd gd_Model_findWants_97 q3906 ?_
    refine cv_Model_leastOf (d := d) gd_Model_findWants_98 gh_k1742 hF (Nat.le_of_ble_eq_true rfl) (gh_C.pw (s_Model_leastOf d v4 (v5 + 1) hF h) (fun r3907 h => ?_))
    refine gh_aload_n gd_Model_findWants_101 0 rfl (by decide) ?_
    refine gf_63_57 gd_Model_findWants_102 gh_k1424 hF ?_
    refine gh_bipush gd_Model_findWants_105 (by decide) (gh_r0 rfl) ?_
    refine gh_aload_n gd_Model_findWants_107 0 rfl (by decide) ?_
    refine gf_63_32 gd_Model_findWants_108 gh_k1399 hF ?_
    refine gh_iload gd_Model_findWants_111 4 rfl ?_
    obtain ⟨q3909, h⟩ := h
    obtain ⟨q3910, h⟩ := h
    refine la_79 gd_Model_findWants_113 hF q3909 q3910 rfl ?_
    obtain ⟨q3911, h⟩ := h
    refine gh_imul gd_Model_findWants_114 q3911 ?_
    refine gh_iload gd_Model_findWants_115 6 rfl ?_
    obtain ⟨q3912, h⟩ := h
    refine gh_iadd gd_Model_findWants_117 q3912 ?_
    obtain ⟨q3913, h⟩ := h
    obtain ⟨q3914, h⟩ := h
    refine la_101 gd_Model_findWants_118 hF q3913 q3914 rfl ?_
    obtain ⟨q3915, h⟩ := h
    refine cv_Model_sumOf (d := d) gd_Model_findWants_119 gh_k1947 (Nat.le_of_ble_eq_true rfl) (gh_C.pe (e_Model_sumOf d r3907 (m 101 ((9 * (m 79 v4)) + v6)) q3915) ?_)
    refine gh_name (fun v7 hn => ?_)
    have h := h v7 hn
    refine gh_istore (L2 := [(7, 0, v7), (0, 2, 63), (1, 0, v1), (2, 0, v2), (3, 0, v3), (4, 0, v4), (5, 0, v5), (6, 0, v6)]) gd_Model_findWants_122 (by decide) rfl ?_
    refine gh_iload gd_Model_findWants_124 7 rfl ?_
    refine gh_istore (L2 := [(8, 0, v6), (7, 0, v7), (0, 2, 63), (1, 0, v1), (2, 0, v2), (3, 0, v3), (4, 0, v4), (5, 0, v5), (6, 0, v6)]) gd_Model_findWants_126 (by decide) rfl ?_
    refine gh_pick (L2 := [(0, 2, 63), (1, 0, v1), (2, 0, v2), (3, 0, v3), (4, 0, v4), (5, 0, v5), (6, 0, v6), (7, 0, v7), (8, 0, v6)]) [2, 3, 4, 5, 6, 7, 8, 1, 0] rfl ?_
    exact gh_M2_sound (T := fun v2 v8 m => gh_T E (gh_yModel_findWants.cls, prog_14_method_83_code, 10, false, 9) (d + 1) 128 [(0, 2, 63), (1, 0, v1), (2, 0, v2), (3, 0, v3), (4, 0, v4), (5, 0, v5), (6, 0, v6), (7, 0, v7), (8, 0, v8)] [] m (fun r m1 => gh_F m1 ∧ Q r m1)) (fun _ _ m => gh_F m) (fun K128 v2 v8 m hK hF h => b_Model_findWants_128 d hK64 hK v2 v8 m hF h) v2 v6 m hF h
  have k3905 : ¬ ((v6 ≤ v1) ∧ ((v5 < (m 80 v4)) ∧ ((m 81 v3) < 0))) → gh_T E (gh_yModel_findWants.cls, prog_14_method_83_code, 10, false, 9) (d + 1) 204 [(0, 2, 63), (1, 0, v1), (2, 0, v2), (3, 0, v3), (4, 0, v4), (5, 0, v5), (6, 0, v6)] [] m (fun r m1 => gh_F m1 ∧ Q r m1) := by
    intro c
    have h := hB c
    refine gh_pick (L2 := [(0, 2, 63), (1, 0, v1), (2, 0, v2), (3, 0, v3)]) [0, 1, 2, 3] rfl ?_
    exact hJ204 v2 m hF h
  refine gh_jgt (tgt := 204) gd_Model_findWants_67 (by decide) (fun c3935 => ?_) (fun c3935 => ?_)
  · have hz : True := trivial
    have hk := hk c3935
    refine gh_iload gd_Model_findWants_70 5 rfl ?_
    refine gh_aload_n gd_Model_findWants_72 0 rfl (by decide) ?_
    refine gf_63_33 gd_Model_findWants_73 gh_k1400 hF ?_
    refine gh_iload gd_Model_findWants_76 4 rfl ?_
    obtain ⟨q3900, hk⟩ := hk
    obtain ⟨q3901, hk⟩ := hk
    refine la_80 gd_Model_findWants_78 hF q3900 q3901 rfl ?_
    refine gh_jge (tgt := 204) gd_Model_findWants_79 (by decide) (fun c3936 => ?_) (fun c3936 => ?_)
    · have hz : True := trivial
      have hk := hk c3936
      refine gh_aload_n gd_Model_findWants_82 0 rfl (by decide) ?_
      refine gf_63_34 gd_Model_findWants_83 gh_k1401 hF ?_
      refine gh_iload_n gd_Model_findWants_86 3 rfl ?_
      obtain ⟨q3902, hk⟩ := hk
      have q3903 := hk
      refine la_81 gd_Model_findWants_87 hF q3902 q3903 rfl ?_
      refine gh_zge (tgt := 204) gd_Model_findWants_88 (by decide) (fun c3937 => ?_) (fun c3937 => ?_)
      · have hz : True := trivial
        exact k3904 ⟨c3935, ⟨c3936, c3937⟩⟩
      · have hz : True := trivial
        exact k3905 (fun z => (fun z => c3937 z.2) z.2)
    · have hz : True := trivial
      exact k3905 (fun z => (fun z => c3936 z.1) z.2)
  · have hz : True := trivial
    exact k3905 (fun z => c3935 z.1)
theorem b_Model_findWants_41 {E : gh_E} {v1 : Int} {K33 : Int → gh_M → Prop} {Q : Int → gh_M → Prop} {K41 : Int → Int → gh_M → Prop} (d : Nat) (hK33 : ∀ (v2 : Int) (m : gh_M), gh_F m → K33 v2 m → gh_T E (gh_yModel_findWants.cls, prog_14_method_83_code, 10, false, 9) (d + 1) 33 [(0, 2, 63), (1, 0, v1), (2, 0, v2)] [] m (fun r m1 => gh_F m1 ∧ Q r m1)) (hK : ∀ (v2 : Int) (v3 : Int) (m : gh_M), gh_F m → K41 v2 v3 m → gh_T E (gh_yModel_findWants.cls, prog_14_method_83_code, 10, false, 9) (d + 1) 41 [(0, 2, 63), (1, 0, v1), (2, 0, v2), (3, 0, v3)] [] m (fun r m1 => gh_F m1 ∧ Q r m1)) (v2 : Int) (v3 : Int) (m : gh_M) (hF : gh_F m) (h : f_Model_findWants_41 v1 K33 K41 v2 v3 m) : gh_T E (gh_yModel_findWants.cls, prog_14_method_83_code, 10, false, 9) (d + 1) 41 [(0, 2, 63), (1, 0, v1), (2, 0, v2), (3, 0, v3)] [] m (fun r m1 => gh_F m1 ∧ Q r m1) := by
  have hK41 := hK
  unfold f_Model_findWants_41 at h
  refine gh_iload_n gd_Model_findWants_41 3 rfl ?_
  refine gh_iconst gd_Model_findWants_42 (gh_r0 rfl) ?_
  refine gh_aload_n gd_Model_findWants_43 0 rfl (by decide) ?_
  refine gf_63_27 gd_Model_findWants_44 gh_k1394 hF rfl ?_
  obtain ⟨q3895, h⟩ := h
  refine gh_imul gd_Model_findWants_47 q3895 ?_
  obtain ⟨hA, hB⟩ := h
  refine gh_jge (tgt := 210) gd_Model_findWants_48 (by decide) (fun c3896 => ?_) (fun c3896 => ?_)
  · have h := hA c3896
    refine gh_iload_n gd_Model_findWants_51 3 rfl ?_
    refine gh_iconst gd_Model_findWants_52 (gh_r0 rfl) ?_
    obtain ⟨q3897, h⟩ := h
    refine gh_idiv gd_Model_findWants_53 q3897 (by decide) ?_
    refine gh_name (fun v4 hn => ?_)
    have h := h v4 hn
    refine gh_istore (L2 := [(4, 0, v4), (0, 2, 63), (1, 0, v1), (2, 0, v2), (3, 0, v3)]) gd_Model_findWants_54 (by decide) rfl ?_
    refine gh_iload_n gd_Model_findWants_56 4 rfl ?_
    refine gh_iconst gd_Model_findWants_57 (gh_r0 rfl) ?_
    obtain ⟨q3898, h⟩ := h
    refine gh_irem gd_Model_findWants_58 q3898 (by decide) ?_
    refine gh_name (fun v5 hn => ?_)
    have h := h v5 hn
    refine gh_istore (L2 := [(5, 0, v5), (4, 0, v4), (0, 2, 63), (1, 0, v1), (2, 0, v2), (3, 0, v3)]) gd_Model_findWants_59 (by decide) rfl ?_
    refine gh_iconst gd_Model_findWants_61 (gh_r0 rfl) ?_
    refine gh_istore (L2 := [(6, 0, 0), (5, 0, v5), (4, 0, v4), (0, 2, 63), (1, 0, v1), (2, 0, v2), (3, 0, v3)]) gd_Model_findWants_62 (by decide) rfl ?_
    refine gh_pick (L2 := [(0, 2, 63), (1, 0, v1), (2, 0, v2), (3, 0, v3), (4, 0, v4), (5, 0, v5), (6, 0, 0)]) [3, 4, 5, 6, 2, 1, 0] rfl ?_
    exact gh_M2_sound (T := fun v2 v6 m => gh_T E (gh_yModel_findWants.cls, prog_14_method_83_code, 10, false, 9) (d + 1) 64 [(0, 2, 63), (1, 0, v1), (2, 0, v2), (3, 0, v3), (4, 0, v4), (5, 0, v5), (6, 0, v6)] [] m (fun r m1 => gh_F m1 ∧ Q r m1)) (fun _ _ m => gh_F m) (fun K64 v2 v6 m hK hF h => b_Model_findWants_64 d hK41 hK v2 v6 m hF h) v2 0 m hF h
  · have h := hB c3896
    refine gh_goto (tgt := 33) gd_Model_findWants_210 (by decide) ?_
    refine gh_pick (L2 := [(0, 2, 63), (1, 0, v1), (2, 0, v2)]) [0, 1, 2] rfl ?_
    exact hK33 v2 m hF h
theorem b_Model_findWants_33 {E : gh_E} {v1 : Int} {Q : Int → gh_M → Prop} {K33 : Int → gh_M → Prop} (d : Nat) (hK : ∀ (v2 : Int) (m : gh_M), gh_F m → K33 v2 m → gh_T E (gh_yModel_findWants.cls, prog_14_method_83_code, 10, false, 9) (d + 1) 33 [(0, 2, 63), (1, 0, v1), (2, 0, v2)] [] m (fun r m1 => gh_F m1 ∧ Q r m1)) (v2 : Int) (m : gh_M) (hF : gh_F m) (h : f_Model_findWants_33 v1 Q K33 v2 m) : gh_T E (gh_yModel_findWants.cls, prog_14_method_83_code, 10, false, 9) (d + 1) 33 [(0, 2, 63), (1, 0, v1), (2, 0, v2)] [] m (fun r m1 => gh_F m1 ∧ Q r m1) := by
  have hK33 := hK
  unfold f_Model_findWants_33 at h
  refine gh_iload_n gd_Model_findWants_33 2 rfl ?_
  obtain ⟨hA, hB⟩ := h
  refine gh_zeq (tgt := 213) gd_Model_findWants_34 (by decide) (fun c3894 => ?_) (fun c3894 => ?_)
  · have h := hA c3894
    exact gh_ret9 rfl gd_Model_findWants_213 ⟨hF, h⟩
  · have h := hB c3894
    refine gh_iconst gd_Model_findWants_37 (gh_r0 rfl) ?_
    refine gh_istore_n (L2 := [(2, 0, 0), (0, 2, 63), (1, 0, v1)]) gd_Model_findWants_38 (by decide) rfl ?_
    refine gh_iconst gd_Model_findWants_39 (gh_r0 rfl) ?_
    refine gh_istore_n (L2 := [(3, 0, 0), (2, 0, 0), (0, 2, 63), (1, 0, v1)]) gd_Model_findWants_40 (by decide) rfl ?_
    refine gh_pick (L2 := [(0, 2, 63), (1, 0, v1), (2, 0, 0), (3, 0, 0)]) [2, 3, 1, 0] rfl ?_
    exact gh_M2_sound (T := fun v2 v3 m => gh_T E (gh_yModel_findWants.cls, prog_14_method_83_code, 10, false, 9) (d + 1) 41 [(0, 2, 63), (1, 0, v1), (2, 0, v2), (3, 0, v3)] [] m (fun r m1 => gh_F m1 ∧ Q r m1)) (fun _ _ m => gh_F m) (fun K41 v2 v3 m hK hF h => b_Model_findWants_41 d hK33 hK v2 v3 m hF h) 0 0 m hF h
theorem b_Model_findWants_2 {E : gh_E} {v1 : Int} {Q : Int → gh_M → Prop} {K2 : Int → gh_M → Prop} (d : Nat) (hK : ∀ (v2 : Int) (m : gh_M), gh_F m → K2 v2 m → gh_T E (gh_yModel_findWants.cls, prog_14_method_83_code, 10, false, 9) (d + 1) 2 [(0, 2, 63), (1, 0, v1), (2, 0, v2)] [] m (fun r m1 => gh_F m1 ∧ Q r m1)) (v2 : Int) (m : gh_M) (hF : gh_F m) (h : f_Model_findWants_2 v1 Q K2 v2 m) : gh_T E (gh_yModel_findWants.cls, prog_14_method_83_code, 10, false, 9) (d + 1) 2 [(0, 2, 63), (1, 0, v1), (2, 0, v2)] [] m (fun r m1 => gh_F m1 ∧ Q r m1) := by
  have hK2 := hK
  unfold f_Model_findWants_2 at h
  refine gh_iload_n gd_Model_findWants_2 2 rfl ?_
  refine gh_bipush gd_Model_findWants_3 (by decide) (gh_r0 rfl) ?_
  obtain ⟨hA, hB⟩ := h
  refine gh_jge (tgt := 31) gd_Model_findWants_5 (by decide) (fun c3887 => ?_) (fun c3887 => ?_)
  · have h := hA c3887
    refine gh_aload_n gd_Model_findWants_8 0 rfl (by decide) ?_
    refine gf_63_57 gd_Model_findWants_9 gh_k1424 hF ?_
    refine gh_iload_n gd_Model_findWants_12 2 rfl ?_
    refine gh_iload_n gd_Model_findWants_13 2 rfl ?_
    have k3888 : ∀ x3889 : Int, x3889 = (if v2 = 0 then 0 else 1000000000) → gh_T E (gh_yModel_findWants.cls, prog_14_method_83_code, 10, false, 9) (d + 1) 24 [(0, 2, 63), (1, 0, v1), (2, 0, v2)] [(0, x3889), (0, v2), (2, 101)] m (fun r m1 => gh_F m1 ∧ Q r m1) := by
      rintro _ rfl
      obtain ⟨q3890, h⟩ := h
      obtain ⟨q3891, h⟩ := h
      refine sa_101 gd_Model_findWants_24 hF q3890 q3891 (fun hF => ?_)
      obtain ⟨q3892, h⟩ := h
      refine gh_iinc (L2 := [(2, 0, v2 + 1), (0, 2, 63), (1, 0, v1)]) gd_Model_findWants_25 2 rfl q3892 (by decide) rfl ?_
      refine gh_goto (tgt := 2) gd_Model_findWants_28 (by decide) ?_
      refine gh_pick (L2 := [(0, 2, 63), (1, 0, v1), (2, 0, v2 + 1)]) [1, 2, 0] rfl ?_
      exact hK2 (v2 + 1) (gh_u m 101 v2 (if v2 = 0 then 0 else 1000000000)) hF h
    refine gh_zne (tgt := 21) gd_Model_findWants_14 (by decide) (fun c3893 => ?_) (fun c3893 => ?_)
    · have hz : True := trivial
      refine gh_iconst gd_Model_findWants_17 (gh_r0 rfl) ?_
      refine gh_goto (tgt := 24) gd_Model_findWants_18 (by decide) ?_
      exact k3888 _ (by rw [if_pos c3893])
    · have hz : True := trivial
      refine gh_ldcw (n := 1000000000) gd_Model_findWants_21 gh_k1741 (by decide) (gh_r0 rfl) ?_
      exact k3888 _ (by rw [if_neg c3893])
  · have h := hB c3887
    refine gh_iconst gd_Model_findWants_31 (gh_r0 rfl) ?_
    refine gh_istore_n (L2 := [(2, 0, 1), (0, 2, 63), (1, 0, v1)]) gd_Model_findWants_32 (by decide) rfl ?_
    refine gh_pick (L2 := [(0, 2, 63), (1, 0, v1), (2, 0, 1)]) [1, 2, 0] rfl ?_
    exact gh_M1_sound (T := fun v2 m => gh_T E (gh_yModel_findWants.cls, prog_14_method_83_code, 10, false, 9) (d + 1) 33 [(0, 2, 63), (1, 0, v1), (2, 0, v2)] [] m (fun r m1 => gh_F m1 ∧ Q r m1)) (fun _ m => gh_F m) (fun K33 v2 m hK hF h => b_Model_findWants_33 d hK v2 m hF h) 1 m hF h
theorem s_Model_findWants {E : gh_E} {m : gh_M} {Q : Int → gh_M → Prop} (d : Nat) (v1 : Int) (hF : gh_F m) (h : w_Model_findWants v1 m Q) : gh_C E gh_yModel_findWants prog_14_method_83_code 10 none 9 (d + 1) [(2, 63), (0, v1)] m (fun r m1 => gh_F m1 ∧ Q r m1) := by
  refine gh_enter2 (L := [(0, 2, 63), (1, 0, v1)]) (by decide +kernel) gh_rt9 (Nat.le_of_ble_eq_true rfl) rfl rfl ?_
  unfold w_Model_findWants at h
  refine gh_iconst gd_Model_findWants_0 (gh_r0 rfl) ?_
  refine gh_istore_n (L2 := [(2, 0, 0), (0, 2, 63), (1, 0, v1)]) gd_Model_findWants_1 (by decide) rfl ?_
  refine gh_pick (L2 := [(0, 2, 63), (1, 0, v1), (2, 0, 0)]) [1, 2, 0] rfl ?_
  exact gh_M1_sound (T := fun v2 m => gh_T E (gh_yModel_findWants.cls, prog_14_method_83_code, 10, false, 9) (d + 1) 2 [(0, 2, 63), (1, 0, v1), (2, 0, v2)] [] m (fun r m1 => gh_F m1 ∧ Q r m1)) (fun _ m => gh_F m) (fun K2 v2 m hK hF h => b_Model_findWants_2 d hK v2 m hF h) 0 m hF h
def f_Model_end_72 (v1 : Int) (v3 : Int) (v4 : Int) (K58 : Int → Int → Prop) (m3946 : gh_M) (K72 : Int → Int → Prop) (v2 : Int) (v5 : Int) : Prop := ((v5 ≤ v1 → (gh_i (405 * v3) ∧ gh_i (81 * v4) ∧ gh_i ((405 * v3) + (81 * v4)) ∧ gh_i (9 * v5) ∧ gh_i (((405 * v3) + (81 * v4)) + (9 * v5)) ∧ gh_i ((((405 * v3) + (81 * v4)) + (9 * v5)) + v1)) ∧ 0 ≤ ((((405 * v3) + (81 * v4)) + (9 * v5)) + v1) ∧ (((((405 * v3) + (81 * v4)) + (9 * v5)) + v1)) < 8100 ∧ ∃ J128 : Int → Prop, (∀ (y0 : Int), J128 y0 → ∀ v2' : Int, v2' = (if y0 < v2 then y0 else v2) → gh_i (v5 + 1) ∧ K72 v2' (v5 + 1)) ∧ (((m3946 98 (((((405 * v3) + (81 * v4)) + (9 * v5)) + v1))) = 0 → J128 1000000000) ∧ (¬ ((m3946 98 (((((405 * v3) + (81 * v4)) + (9 * v5)) + v1))) = 0) → w_Model_leastOf v3 v4 m3946 (fun r3960 => 0 ≤ v3 ∧ v3 < 20 ∧ gh_i (9 * (m3946 79 v3)) ∧ gh_i ((9 * (m3946 79 v3)) + v5) ∧ 0 ≤ (9 * (m3946 79 v3)) + v5 ∧ ((9 * (m3946 79 v3)) + v5) < 72 ∧ k_Model_sumOf r3960 (m3946 101 ((9 * (m3946 79 v3)) + v5)) ∧ J128 (x_Model_sumOf r3960 (m3946 101 ((9 * (m3946 79 v3)) + v5))))))) ∧ (¬ (v5 ≤ v1) → gh_i (v4 + 1) ∧ K58 v2 (v4 + 1)))
def f_Model_end_58 (v1 : Int) (v3 : Int) (K47 : Int → Int → Prop) (m3946 : gh_M) (K58 : Int → Int → Prop) (v2 : Int) (v4 : Int) : Prop := 0 ≤ v3 ∧ v3 < 20 ∧ ((v4 ≤ (m3946 80 v3) → gh_L2 (fun K72 v2 v5 => f_Model_end_72 v1 v3 v4 K58 m3946 K72 v2 v5) v2 0) ∧ (¬ (v4 ≤ (m3946 80 v3)) → gh_i (v3 + 1) ∧ K47 v2 (v3 + 1)))
def f_Model_end_47 (v1 : Int) (Q : Int → gh_M → Prop) (m3946 : gh_M) (K47 : Int → Int → Prop) (v2 : Int) (v3 : Int) : Prop := ((v3 < (m3946 63 27) → gh_L2 (fun K58 v2 v4 => f_Model_end_58 v1 v3 K47 m3946 K58 v2 v4) v2 0) ∧ (¬ (v3 < (m3946 63 27)) → Q (if v2 = 1000000000 then (-1) else v2) m3946))
def w_Model_end (v1 : Int) (m : gh_M) (Q : Int → gh_M → Prop) : Prop := ∃ J15 : Prop, (J15 → Q (if (m 63 24) = 0 then (-1003) else (-1001)) m) ∧ (((¬ ((m 63 24) = 0) ∧ (p_Model_isPlace v1 m)) → w_Model_lay m (fun _ m3944 => w_Model_findWants v1 m3944 (fun _ m3946 => gh_L2 (fun K47 v2 v3 => f_Model_end_47 v1 Q m3946 K47 v2 v3) 1000000000 0))) ∧ (¬ (¬ ((m 63 24) = 0) ∧ (p_Model_isPlace v1 m)) → J15))
theorem b_Model_end_72 {E : gh_E} {v1 : Int} {v3 : Int} {v4 : Int} {K58 : Int → Int → Prop} {Q : Int → gh_M → Prop} {K72 : Int → Int → Prop} (d : Nat) {m3946 : gh_M} (hK58 : ∀ (v2 : Int) (v4 : Int), gh_F m3946 → K58 v2 v4 → gh_T E (gh_yModel_end.cls, prog_14_method_84_code, 7, false, 0) (d + 3) 58 [(0, 2, 63), (1, 0, v1), (2, 0, v2), (3, 0, v3), (4, 0, v4)] [] m3946 (fun r m1 => gh_F m1 ∧ Q r m1)) (hK : ∀ (v2 : Int) (v5 : Int), gh_F m3946 → K72 v2 v5 → gh_T E (gh_yModel_end.cls, prog_14_method_84_code, 7, false, 0) (d + 3) 72 [(0, 2, 63), (1, 0, v1), (2, 0, v2), (3, 0, v3), (4, 0, v4), (5, 0, v5)] [] m3946 (fun r m1 => gh_F m1 ∧ Q r m1)) (v2 : Int) (v5 : Int) (hF : gh_F m3946) (h : f_Model_end_72 v1 v3 v4 K58 m3946 K72 v2 v5) : gh_T E (gh_yModel_end.cls, prog_14_method_84_code, 7, false, 0) (d + 3) 72 [(0, 2, 63), (1, 0, v1), (2, 0, v2), (3, 0, v3), (4, 0, v4), (5, 0, v5)] [] m3946 (fun r m1 => gh_F m1 ∧ Q r m1) := by
  have hK72 := hK
  unfold f_Model_end_72 at h
  refine gh_iload gd_Model_end_72 5 rfl ?_
  refine gh_iload_n gd_Model_end_74 1 rfl ?_
  obtain ⟨hA, hB⟩ := h
  refine gh_jgt (tgt := 149) gd_Model_end_75 (by decide) (fun c3951 => ?_) (fun c3951 => ?_)
  · have h := hA c3951
    refine gh_aload_n gd_Model_end_78 0 rfl (by decide) ?_
    refine gf_63_54 gd_Model_end_79 gh_k1421 hF ?_
    refine gh_iload_n gd_Model_end_82 3 rfl ?_
    refine gh_iload gd_Model_end_83 4 rfl ?_
    refine gh_iload gd_Model_end_85 5 rfl ?_
    refine gh_iload_n gd_Model_end_87 1 rfl ?_
    obtain ⟨q3952, h⟩ := h
    refine cv_Model_begun (d := d + 2) gd_Model_end_88 gh_k1904 (Nat.le_of_ble_eq_true rfl) (gh_C.pe (e_Model_begun (d + 2) v3 v4 v5 v1 q3952) ?_)
    obtain ⟨q3953, h⟩ := h
    obtain ⟨q3954, h⟩ := h
    refine la_98 gd_Model_end_91 hF q3953 q3954 rfl ?_
    obtain ⟨J128, hJ128, h⟩ := h
    have hJ128 : ∀ (y0 : Int), gh_F m3946 → J128 y0 → gh_T E (gh_yModel_end.cls, prog_14_method_84_code, 7, false, 0) (d + 3) 128 [(0, 2, 63), (1, 0, v1), (2, 0, v2), (3, 0, v3), (4, 0, v4), (5, 0, v5)] [(0, y0)] m3946 (fun r m1 => gh_F m1 ∧ Q r m1) := by
      intro y0 hF hj
      have h := hJ128 y0 hj
      refine gh_istore (L2 := [(6, 0, y0), (0, 2, 63), (1, 0, v1), (2, 0, v2), (3, 0, v3), (4, 0, v4), (5, 0, v5)]) gd_Model_end_128 (by decide) rfl ?_
      refine gh_iload gd_Model_end_130 0 rfl ?_
      refine gh_iload_n gd_Model_end_132 3 rfl ?_
      have k3955 : ∀ x3956 : Int, x3956 = (if y0 < v2 then y0 else v2) → gh_T E (gh_yModel_end.cls, prog_14_method_84_code, 7, false, 0) (d + 3) 142 [(6, 0, y0), (0, 2, 63), (1, 0, v1), (2, 0, v2), (3, 0, v3), (4, 0, v4), (5, 0, v5)] [(0, x3956)] m3946 (fun r m1 => gh_F m1 ∧ Q r m1) := by
        rintro _ rfl
        refine gh_name (fun v2' hn => ?_)
        have h := h v2' hn
        refine gh_istore_n (L2 := [(2, 0, v2'), (6, 0, y0), (0, 2, 63), (1, 0, v1), (3, 0, v3), (4, 0, v4), (5, 0, v5)]) gd_Model_end_142 (by decide) rfl ?_
        obtain ⟨q3957, h⟩ := h
        refine gh_iinc (L2 := [(5, 0, v5 + 1), (2, 0, v2'), (6, 0, y0), (0, 2, 63), (1, 0, v1), (3, 0, v3), (4, 0, v4)]) gd_Model_end_143 6 rfl q3957 (by decide) rfl ?_
        refine gh_goto (tgt := 72) gd_Model_end_146 (by decide) ?_
        refine gh_pick (L2 := [(0, 2, 63), (1, 0, v1), (2, 0, v2'), (3, 0, v3), (4, 0, v4), (5, 0, v5 + 1)]) [3, 4, 1, 5, 6, 0] rfl ?_
        exact hK72 v2' (v5 + 1) hF h
      refine gh_jge (tgt := 141) gd_Model_end_133 (by decide) (fun c3958 => ?_) (fun c3958 => ?_)
      · have hz : True := trivial
        refine gh_iload gd_Model_end_136 0 rfl ?_
        refine gh_goto (tgt := 142) gd_Model_end_138 (by decide) ?_
        exact k3955 _ (by rw [if_pos c3958])
      · have hz : True := trivial
        refine gh_iload_n gd_Model_end_141 3 rfl ?_
        exact k3955 _ (by rw [if_neg c3958])
    obtain ⟨hA, hB⟩ := h
    refine gh_zeq (tgt := 125) gd_Model_end_92 (by decide) (fun c3959 => ?_) (fun c3959 => ?_)
    · have h := hA c3959
      refine gh_ldcw (n := 1000000000) gd_Model_end_125 gh_k1741 (by decide) (gh_r0 rfl) ?_
      exact hJ128 1000000000 hF h
    · have h := hB c3959
      refine gh_aload_n gd_Model_end_95 0 rfl (by decide) ?_
      refine gh_iload_n gd_Model_end_96 3 rfl ?_
      refine gh_iload gd_Model_end_97 4 rfl ?_
      refine cv_Model_leastOf (d := d + 2) gd_Model_end_99 gh_k1742 hF (Nat.le_of_ble_eq_true rfl) (gh_C.pw (s_Model_leastOf (d + 2) v3 v4 hF h) (fun r3960 h => ?_))
      refine gh_aload_n gd_Model_end_102 0 rfl (by decide) ?_
      refine gf_63_57 gd_Model_end_103 gh_k1424 hF ?_
      refine gh_bipush gd_Model_end_106 (by decide) (gh_r0 rfl) ?_
      refine gh_aload_n gd_Model_end_108 0 rfl (by decide) ?_
      refine gf_63_32 gd_Model_end_109 gh_k1399 hF ?_
      refine gh_iload_n gd_Model_end_112 3 rfl ?_
      obtain ⟨q3962, h⟩ := h
      obtain ⟨q3963, h⟩ := h
      refine la_79 gd_Model_end_113 hF q3962 q3963 rfl ?_
      obtain ⟨q3964, h⟩ := h
      refine gh_imul gd_Model_end_114 q3964 ?_
      refine gh_iload gd_Model_end_115 5 rfl ?_
      obtain ⟨q3965, h⟩ := h
      refine gh_iadd gd_Model_end_117 q3965 ?_
      obtain ⟨q3966, h⟩ := h
      obtain ⟨q3967, h⟩ := h
      refine la_101 gd_Model_end_118 hF q3966 q3967 rfl ?_
      obtain ⟨q3968, h⟩ := h
      refine cv_Model_sumOf (d := d + 2) gd_Model_end_119 gh_k1947 (Nat.le_of_ble_eq_true rfl) (gh_C.pe (e_Model_sumOf (d + 2) r3960 (m3946 101 ((9 * (m3946 79 v3)) + v5)) q3968) ?_)
      refine gh_goto (tgt := 128) gd_Model_end_122 (by decide) ?_
      exact hJ128 (x_Model_sumOf r3960 (m3946 101 ((9 * (m3946 79 v3)) + v5))) hF h
  · have h := hB c3951
    obtain ⟨q3969, h⟩ := h
    refine gh_iinc (L2 := [(4, 0, v4 + 1), (0, 2, 63), (1, 0, v1), (2, 0, v2), (3, 0, v3), (5, 0, v5)]) gd_Model_end_149 4 rfl q3969 (by decide) rfl ?_
    refine gh_goto (tgt := 58) gd_Model_end_152 (by decide) ?_
    refine gh_pick (L2 := [(0, 2, 63), (1, 0, v1), (2, 0, v2), (3, 0, v3), (4, 0, v4 + 1)]) [1, 2, 3, 4, 0] rfl ?_
    exact hK58 v2 (v4 + 1) hF h
theorem b_Model_end_58 {E : gh_E} {v1 : Int} {v3 : Int} {K47 : Int → Int → Prop} {Q : Int → gh_M → Prop} {K58 : Int → Int → Prop} (d : Nat) {m3946 : gh_M} (hK47 : ∀ (v2 : Int) (v3 : Int), gh_F m3946 → K47 v2 v3 → gh_T E (gh_yModel_end.cls, prog_14_method_84_code, 7, false, 0) (d + 3) 47 [(0, 2, 63), (1, 0, v1), (2, 0, v2), (3, 0, v3)] [] m3946 (fun r m1 => gh_F m1 ∧ Q r m1)) (hK : ∀ (v2 : Int) (v4 : Int), gh_F m3946 → K58 v2 v4 → gh_T E (gh_yModel_end.cls, prog_14_method_84_code, 7, false, 0) (d + 3) 58 [(0, 2, 63), (1, 0, v1), (2, 0, v2), (3, 0, v3), (4, 0, v4)] [] m3946 (fun r m1 => gh_F m1 ∧ Q r m1)) (v2 : Int) (v4 : Int) (hF : gh_F m3946) (h : f_Model_end_58 v1 v3 K47 m3946 K58 v2 v4) : gh_T E (gh_yModel_end.cls, prog_14_method_84_code, 7, false, 0) (d + 3) 58 [(0, 2, 63), (1, 0, v1), (2, 0, v2), (3, 0, v3), (4, 0, v4)] [] m3946 (fun r m1 => gh_F m1 ∧ Q r m1) := by
  have hK58 := hK
  unfold f_Model_end_58 at h
  refine gh_iload gd_Model_end_58 4 rfl ?_
  refine gh_aload_n gd_Model_end_60 0 rfl (by decide) ?_
  refine gf_63_33 gd_Model_end_61 gh_k1400 hF ?_
  refine gh_iload_n gd_Model_end_64 3 rfl ?_
  obtain ⟨q3948, h⟩ := h
  obtain ⟨q3949, h⟩ := h
  refine la_80 gd_Model_end_65 hF q3948 q3949 rfl ?_
  obtain ⟨hA, hB⟩ := h
  refine gh_jgt (tgt := 155) gd_Model_end_66 (by decide) (fun c3950 => ?_) (fun c3950 => ?_)
  · have h := hA c3950
    refine gh_iconst gd_Model_end_69 (gh_r0 rfl) ?_
    refine gh_istore (L2 := [(5, 0, 0), (0, 2, 63), (1, 0, v1), (2, 0, v2), (3, 0, v3), (4, 0, v4)]) gd_Model_end_70 (by decide) rfl ?_
    refine gh_pick (L2 := [(0, 2, 63), (1, 0, v1), (2, 0, v2), (3, 0, v3), (4, 0, v4), (5, 0, 0)]) [1, 2, 3, 4, 5, 0] rfl ?_
    exact gh_L2_sound (T := fun v2 v5 => gh_T E (gh_yModel_end.cls, prog_14_method_84_code, 7, false, 0) (d + 3) 72 [(0, 2, 63), (1, 0, v1), (2, 0, v2), (3, 0, v3), (4, 0, v4), (5, 0, v5)] [] m3946 (fun r m1 => gh_F m1 ∧ Q r m1)) (fun _ _ => gh_F m3946) (fun K72 v2 v5 hK hF h => b_Model_end_72 d hK58 hK v2 v5 hF h) v2 0 hF h
  · have h := hB c3950
    obtain ⟨q3970, h⟩ := h
    refine gh_iinc (L2 := [(3, 0, v3 + 1), (0, 2, 63), (1, 0, v1), (2, 0, v2), (4, 0, v4)]) gd_Model_end_155 3 rfl q3970 (by decide) rfl ?_
    refine gh_goto (tgt := 47) gd_Model_end_158 (by decide) ?_
    refine gh_pick (L2 := [(0, 2, 63), (1, 0, v1), (2, 0, v2), (3, 0, v3 + 1)]) [1, 2, 3, 0] rfl ?_
    exact hK47 v2 (v3 + 1) hF h
theorem b_Model_end_47 {E : gh_E} {v1 : Int} {Q : Int → gh_M → Prop} {K47 : Int → Int → Prop} (d : Nat) {m3946 : gh_M} (hK : ∀ (v2 : Int) (v3 : Int), gh_F m3946 → K47 v2 v3 → gh_T E (gh_yModel_end.cls, prog_14_method_84_code, 7, false, 0) (d + 3) 47 [(0, 2, 63), (1, 0, v1), (2, 0, v2), (3, 0, v3)] [] m3946 (fun r m1 => gh_F m1 ∧ Q r m1)) (v2 : Int) (v3 : Int) (hF : gh_F m3946) (h : f_Model_end_47 v1 Q m3946 K47 v2 v3) : gh_T E (gh_yModel_end.cls, prog_14_method_84_code, 7, false, 0) (d + 3) 47 [(0, 2, 63), (1, 0, v1), (2, 0, v2), (3, 0, v3)] [] m3946 (fun r m1 => gh_F m1 ∧ Q r m1) := by
  have hK47 := hK
  unfold f_Model_end_47 at h
  refine gh_iload_n gd_Model_end_47 3 rfl ?_
  refine gh_aload_n gd_Model_end_48 0 rfl (by decide) ?_
  refine gf_63_27 gd_Model_end_49 gh_k1394 hF rfl ?_
  obtain ⟨hA, hB⟩ := h
  refine gh_jge (tgt := 161) gd_Model_end_52 (by decide) (fun c3947 => ?_) (fun c3947 => ?_)
  · have h := hA c3947
    refine gh_iconst gd_Model_end_55 (gh_r0 rfl) ?_
    refine gh_istore (L2 := [(4, 0, 0), (0, 2, 63), (1, 0, v1), (2, 0, v2), (3, 0, v3)]) gd_Model_end_56 (by decide) rfl ?_
    refine gh_pick (L2 := [(0, 2, 63), (1, 0, v1), (2, 0, v2), (3, 0, v3), (4, 0, 0)]) [1, 2, 3, 4, 0] rfl ?_
    exact gh_L2_sound (T := fun v2 v4 => gh_T E (gh_yModel_end.cls, prog_14_method_84_code, 7, false, 0) (d + 3) 58 [(0, 2, 63), (1, 0, v1), (2, 0, v2), (3, 0, v3), (4, 0, v4)] [] m3946 (fun r m1 => gh_F m1 ∧ Q r m1)) (fun _ _ => gh_F m3946) (fun K58 v2 v4 hK hF h => b_Model_end_58 d hK47 hK v2 v4 hF h) v2 0 hF h
  · have h := hB c3947
    refine gh_iload_n gd_Model_end_161 2 rfl ?_
    refine gh_ldcw (n := 1000000000) gd_Model_end_162 gh_k1741 (by decide) (gh_r0 rfl) ?_
    have k3971 : ∀ x3972 : Int, x3972 = (if v2 = 1000000000 then (-1) else v2) → gh_T E (gh_yModel_end.cls, prog_14_method_84_code, 7, false, 0) (d + 3) 173 [(0, 2, 63), (1, 0, v1), (2, 0, v2), (3, 0, v3)] [(0, x3972)] m3946 (fun r m1 => gh_F m1 ∧ Q r m1) := by
      rintro _ rfl
      exact gh_ret0 rfl gd_Model_end_173 ⟨hF, h⟩
    refine gh_jne (tgt := 172) gd_Model_end_165 (by decide) (fun c3973 => ?_) (fun c3973 => ?_)
    · have hz : True := trivial
      refine gh_iconst gd_Model_end_168 (gh_r0 rfl) ?_
      refine gh_goto (tgt := 173) gd_Model_end_169 (by decide) ?_
      exact k3971 _ (by rw [if_pos c3973])
    · have hz : True := trivial
      refine gh_iload_n gd_Model_end_172 2 rfl ?_
      exact k3971 _ (by rw [if_neg c3973])
theorem s_Model_end {E : gh_E} {m : gh_M} {Q : Int → gh_M → Prop} (d : Nat) (v1 : Int) (hF : gh_F m) (h : w_Model_end v1 m Q) : gh_C E gh_yModel_end prog_14_method_84_code 7 (some .int) 0 (d + 3) [(2, 63), (0, v1)] m (fun r m1 => gh_F m1 ∧ Q r m1) := by
  refine gh_enter2 (L := [(0, 2, 63), (1, 0, v1)]) (by decide +kernel) gh_rt0 (Nat.le_of_ble_eq_true rfl) rfl rfl ?_
  unfold w_Model_end at h
  refine gh_aload_n gd_Model_end_0 0 rfl (by decide) ?_
  refine gf_63_24 gd_Model_end_1 gh_k1391 hF rfl ?_
  obtain ⟨J15, hJ15, h⟩ := h
  have hJ15 : gh_F m → J15 → gh_T E (gh_yModel_end.cls, prog_14_method_84_code, 7, false, 0) (d + 3) 15 [(0, 2, 63)] [] m (fun r m1 => gh_F m1 ∧ Q r m1) := by
    intro hF hj
    have h := hJ15 hj
    refine gh_aload_n gd_Model_end_15 0 rfl (by decide) ?_
    refine gf_63_24 gd_Model_end_16 gh_k1391 hF rfl ?_
    have k3938 : ∀ x3939 : Int, x3939 = (if (m 63 24) = 0 then (-1003) else (-1001)) → gh_T E (gh_yModel_end.cls, prog_14_method_84_code, 7, false, 0) (d + 3) 31 [(0, 2, 63)] [(0, x3939)] m (fun r m1 => gh_F m1 ∧ Q r m1) := by
      rintro _ rfl
      exact gh_ret0 rfl gd_Model_end_31 ⟨hF, h⟩
    refine gh_zeq (tgt := 28) gd_Model_end_19 (by decide) (fun c3940 => ?_) (fun c3940 => ?_)
    · have hz : True := trivial
      refine gh_sipush gd_Model_end_28 (by decide) (gh_r0 rfl) ?_
      exact k3938 _ (by rw [if_pos c3940])
    · have hz : True := trivial
      refine gh_sipush gd_Model_end_22 (by decide) (gh_r0 rfl) ?_
      refine gh_goto (tgt := 31) gd_Model_end_25 (by decide) ?_
      exact k3938 _ (by rw [if_neg c3940])
  obtain ⟨hA, hB⟩ := h
  have k3941 : (¬ ((m 63 24) = 0) ∧ (p_Model_isPlace v1 m)) → gh_T E (gh_yModel_end.cls, prog_14_method_84_code, 7, false, 0) (d + 3) 32 [(0, 2, 63), (1, 0, v1)] [] m (fun r m1 => gh_F m1 ∧ Q r m1) := by
    intro c
    have h := hA c
    refine gh_aload_n gd_Model_end_32 0 rfl (by decide) ?_
    refine cv_Model_lay (d := d + 2) gd_Model_end_33 gh_k1896 hF (Nat.le_of_ble_eq_true rfl) (gh_C.mono (s_Model_lay d hF h) (fun r3943 m3944 hq => ?_))
    obtain ⟨hF, h⟩ := hq
    refine gh_aload_n gd_Model_end_36 0 rfl (by decide) ?_
    refine gh_iload_n gd_Model_end_37 1 rfl ?_
    refine cv_Model_findWants (d := d + 2) gd_Model_end_38 gh_k1943 hF (Nat.le_of_ble_eq_true rfl) (gh_C.mono (s_Model_findWants (d + 1) v1 hF h) (fun r3945 m3946 hq => ?_))
    obtain ⟨hF, h⟩ := hq
    refine gh_ldcw (n := 1000000000) gd_Model_end_41 gh_k1741 (by decide) (gh_r0 rfl) ?_
    refine gh_istore_n (L2 := [(2, 0, 1000000000), (0, 2, 63), (1, 0, v1)]) gd_Model_end_44 (by decide) rfl ?_
    refine gh_iconst gd_Model_end_45 (gh_r0 rfl) ?_
    refine gh_istore_n (L2 := [(3, 0, 0), (2, 0, 1000000000), (0, 2, 63), (1, 0, v1)]) gd_Model_end_46 (by decide) rfl ?_
    refine gh_pick (L2 := [(0, 2, 63), (1, 0, v1), (2, 0, 1000000000), (3, 0, 0)]) [2, 3, 1, 0] rfl ?_
    exact gh_L2_sound (T := fun v2 v3 => gh_T E (gh_yModel_end.cls, prog_14_method_84_code, 7, false, 0) (d + 3) 47 [(0, 2, 63), (1, 0, v1), (2, 0, v2), (3, 0, v3)] [] m3946 (fun r m1 => gh_F m1 ∧ Q r m1)) (fun _ _ => gh_F m3946) (fun K47 v2 v3 hK hF h => b_Model_end_47 d hK v2 v3 hF h) 1000000000 0 hF h
  have k3942 : ¬ (¬ ((m 63 24) = 0) ∧ (p_Model_isPlace v1 m)) → gh_T E (gh_yModel_end.cls, prog_14_method_84_code, 7, false, 0) (d + 3) 15 [(0, 2, 63), (1, 0, v1)] [] m (fun r m1 => gh_F m1 ∧ Q r m1) := by
    intro c
    have h := hB c
    refine gh_pick (L2 := [(0, 2, 63)]) [0] rfl ?_
    exact hJ15 hF h
  refine gh_zeq (tgt := 15) gd_Model_end_4 (by decide) (fun c3974 => ?_) (fun c3974 => ?_)
  · have hz : True := trivial
    exact k3942 (fun z => z.1 c3974)
  · have hz : True := trivial
    refine gh_aload_n gd_Model_end_7 0 rfl (by decide) ?_
    refine gh_iload_n gd_Model_end_8 1 rfl ?_
    refine cv_Model_isPlace (d := d + 2) gd_Model_end_9 gh_k1872 hF (Nat.le_of_ble_eq_true rfl) (gh_C.pe (e_Model_isPlace (d + 1) v1 hF) ?_)
    refine gh_bne (tgt := 32) gd_Model_end_12 (by decide) (fun c3975 => ?_) (fun c3975 => ?_)
    · have hz : True := trivial
      exact k3941 ⟨c3974, c3975⟩
    · have hz : True := trivial
      exact k3942 (fun z => c3975 z.2)
def f_Model_costOf_29 (v1 : Int) (v2 : Int) (v3 : Int) (Q : Int → Prop) (m : gh_M) (K29 : Int → Int → Prop) (v4 : Int) (v5 : Int) : Prop := ((v5 < v3 → 0 ≤ v5 ∧ v5 < 8 ∧ ∀ v4' : Int, v4' = gh_ior_f v4 (gh_iand_f (gh_ishr_f v1 (m 96 v5)) 1) → gh_i (v5 + 1) ∧ K29 v4' (v5 + 1)) ∧ (¬ (v5 < v3) → ((¬ (v2 = v3) → (gh_i (v3 - v2) ∧ gh_i ((v3 - v2) - v4)))) ∧ Q (if v2 = v3 then 1 else ((v3 - v2) - v4))))
def w_Model_costOf (v1 : Int) (v2 : Int) (v3 : Int) (m : gh_M) (Q : Int → Prop) : Prop := ((v1 < 0 → gh_i ((-1) - v1) ∧ gh_i (81 * ((-1) - v1)) ∧ gh_i (9 * v2) ∧ gh_i ((81 * ((-1) - v1)) + (9 * v2)) ∧ gh_i (((81 * ((-1) - v1)) + (9 * v2)) + v3) ∧ 0 ≤ ((81 * ((-1) - v1)) + (9 * v2)) + v3 ∧ (((81 * ((-1) - v1)) + (9 * v2)) + v3) < 648 ∧ Q (m 102 (((81 * ((-1) - v1)) + (9 * v2)) + v3))) ∧ (¬ (v1 < 0) → gh_L2 (fun K29 v4 v5 => f_Model_costOf_29 v1 v2 v3 Q m K29 v4 v5) 0 v2))
theorem b_Model_costOf_29 {E : gh_E} {v1 : Int} {v2 : Int} {v3 : Int} {Q : Int → Prop} {K29 : Int → Int → Prop} (d : Nat) {m : gh_M} (hK : ∀ (v4 : Int) (v5 : Int), gh_F m → K29 v4 v5 → gh_T E (gh_yModel_costOf.cls, prog_14_method_85_code, 6, false, 0) (d + 0) 29 [(0, 2, 63), (1, 0, v1), (2, 0, v2), (3, 0, v3), (4, 0, v4), (5, 0, v5)] [] m (fun r m1 => m1 = m ∧ Q r)) (v4 : Int) (v5 : Int) (hF : gh_F m) (h : f_Model_costOf_29 v1 v2 v3 Q m K29 v4 v5) : gh_T E (gh_yModel_costOf.cls, prog_14_method_85_code, 6, false, 0) (d + 0) 29 [(0, 2, 63), (1, 0, v1), (2, 0, v2), (3, 0, v3), (4, 0, v4), (5, 0, v5)] [] m (fun r m1 => m1 = m ∧ Q r) := by
  have hK29 := hK
  unfold f_Model_costOf_29 at h
  refine gh_iload gd_Model_costOf_29 5 rfl ?_
  refine gh_iload_n gd_Model_costOf_31 3 rfl ?_
  obtain ⟨hA, hB⟩ := h
  refine gh_jge (tgt := 57) gd_Model_costOf_32 (by decide) (fun c3984 => ?_) (fun c3984 => ?_)
  · have h := hA c3984
    refine gh_iload gd_Model_costOf_35 4 rfl ?_
    refine gh_iload_n gd_Model_costOf_37 1 rfl ?_
    refine gh_aload_n gd_Model_costOf_38 0 rfl (by decide) ?_
    refine gf_63_51 gd_Model_costOf_39 gh_k1418 hF ?_
    refine gh_iload gd_Model_costOf_42 5 rfl ?_
    obtain ⟨q3985, h⟩ := h
    obtain ⟨q3986, h⟩ := h
    refine la_96 gd_Model_costOf_44 hF q3985 q3986 rfl ?_
    refine gh_ishr gd_Model_costOf_45 ?_
    refine gh_iconst gd_Model_costOf_46 (gh_r0 rfl) ?_
    refine gh_iand gd_Model_costOf_47 ?_
    refine gh_ior gd_Model_costOf_48 ?_
    refine gh_name (fun v4' hn => ?_)
    have h := h v4' hn
    refine gh_istore (L2 := [(4, 0, v4'), (0, 2, 63), (1, 0, v1), (2, 0, v2), (3, 0, v3), (5, 0, v5)]) gd_Model_costOf_49 (by decide) rfl ?_
    obtain ⟨q3987, h⟩ := h
    refine gh_iinc (L2 := [(5, 0, v5 + 1), (4, 0, v4'), (0, 2, 63), (1, 0, v1), (2, 0, v2), (3, 0, v3)]) gd_Model_costOf_51 5 rfl q3987 (by decide) rfl ?_
    refine gh_goto (tgt := 29) gd_Model_costOf_54 (by decide) ?_
    refine gh_pick (L2 := [(0, 2, 63), (1, 0, v1), (2, 0, v2), (3, 0, v3), (4, 0, v4'), (5, 0, v5 + 1)]) [2, 3, 4, 5, 1, 0] rfl ?_
    exact hK29 v4' (v5 + 1) hF h
  · have h := hB c3984
    refine gh_iload_n gd_Model_costOf_57 2 rfl ?_
    refine gh_iload_n gd_Model_costOf_58 3 rfl ?_
    obtain ⟨hk, h⟩ := h
    have k3990 : ∀ x3991 : Int, x3991 = (if v2 = v3 then 1 else ((v3 - v2) - v4)) → gh_T E (gh_yModel_costOf.cls, prog_14_method_85_code, 6, false, 0) (d + 0) 72 [(0, 2, 63), (1, 0, v1), (2, 0, v2), (3, 0, v3), (4, 0, v4), (5, 0, v5)] [(0, x3991)] m (fun r m1 => m1 = m ∧ Q r) := by
      rintro _ rfl
      exact gh_ret0 rfl gd_Model_costOf_72 ⟨rfl, h⟩
    refine gh_jne (tgt := 66) gd_Model_costOf_59 (by decide) (fun c3992 => ?_) (fun c3992 => ?_)
    · have hz : True := trivial
      refine gh_iconst gd_Model_costOf_62 (gh_r0 rfl) ?_
      refine gh_goto (tgt := 72) gd_Model_costOf_63 (by decide) ?_
      exact k3990 _ (by rw [if_pos c3992])
    · have hz : True := trivial
      have hk := hk c3992
      refine gh_iload_n gd_Model_costOf_66 3 rfl ?_
      refine gh_iload_n gd_Model_costOf_67 2 rfl ?_
      obtain ⟨q3988, hk⟩ := hk
      refine gh_isub gd_Model_costOf_68 q3988 ?_
      refine gh_iload gd_Model_costOf_69 4 rfl ?_
      have q3989 := hk
      refine gh_isub gd_Model_costOf_71 q3989 ?_
      exact k3990 _ (by rw [if_neg c3992])
theorem s_Model_costOf {E : gh_E} {m : gh_M} {Q : Int → Prop} (d : Nat) (v1 : Int) (v2 : Int) (v3 : Int) (hF : gh_F m) (h : w_Model_costOf v1 v2 v3 m Q) : gh_C E gh_yModel_costOf prog_14_method_85_code 6 (some .int) 0 (d + 0) [(2, 63), (0, v1), (0, v2), (0, v3)] m (fun r m1 => m1 = m ∧ Q r) := by
  refine gh_enter2 (L := [(0, 2, 63), (1, 0, v1), (2, 0, v2), (3, 0, v3)]) (by decide +kernel) gh_rt0 (Nat.le_of_ble_eq_true rfl) rfl rfl ?_
  unfold w_Model_costOf at h
  refine gh_iload_n gd_Model_costOf_0 1 rfl ?_
  obtain ⟨hA, hB⟩ := h
  refine gh_zge (tgt := 23) gd_Model_costOf_1 (by decide) (fun c3976 => ?_) (fun c3976 => ?_)
  · have h := hA c3976
    refine gh_aload_n gd_Model_costOf_4 0 rfl (by decide) ?_
    refine gf_63_58 gd_Model_costOf_5 gh_k1425 hF ?_
    refine gh_bipush gd_Model_costOf_8 (by decide) (gh_r0 rfl) ?_
    refine gh_iconst gd_Model_costOf_10 (gh_r0 rfl) ?_
    refine gh_iload_n gd_Model_costOf_11 1 rfl ?_
    obtain ⟨q3977, h⟩ := h
    refine gh_isub gd_Model_costOf_12 q3977 ?_
    obtain ⟨q3978, h⟩ := h
    refine gh_imul gd_Model_costOf_13 q3978 ?_
    refine gh_bipush gd_Model_costOf_14 (by decide) (gh_r0 rfl) ?_
    refine gh_iload_n gd_Model_costOf_16 2 rfl ?_
    obtain ⟨q3979, h⟩ := h
    refine gh_imul gd_Model_costOf_17 q3979 ?_
    obtain ⟨q3980, h⟩ := h
    refine gh_iadd gd_Model_costOf_18 q3980 ?_
    refine gh_iload_n gd_Model_costOf_19 3 rfl ?_
    obtain ⟨q3981, h⟩ := h
    refine gh_iadd gd_Model_costOf_20 q3981 ?_
    obtain ⟨q3982, h⟩ := h
    obtain ⟨q3983, h⟩ := h
    refine la_102 gd_Model_costOf_21 hF q3982 q3983 rfl ?_
    exact gh_ret0 rfl gd_Model_costOf_22 ⟨rfl, h⟩
  · have h := hB c3976
    refine gh_iconst gd_Model_costOf_23 (gh_r0 rfl) ?_
    refine gh_istore (L2 := [(4, 0, 0), (0, 2, 63), (1, 0, v1), (2, 0, v2), (3, 0, v3)]) gd_Model_costOf_24 (by decide) rfl ?_
    refine gh_iload_n gd_Model_costOf_26 3 rfl ?_
    refine gh_istore (L2 := [(5, 0, v2), (4, 0, 0), (0, 2, 63), (1, 0, v1), (2, 0, v2), (3, 0, v3)]) gd_Model_costOf_27 (by decide) rfl ?_
    refine gh_pick (L2 := [(0, 2, 63), (1, 0, v1), (2, 0, v2), (3, 0, v3), (4, 0, 0), (5, 0, v2)]) [2, 3, 4, 5, 1, 0] rfl ?_
    exact gh_L2_sound (T := fun v4 v5 => gh_T E (gh_yModel_costOf.cls, prog_14_method_85_code, 6, false, 0) (d + 0) 29 [(0, 2, 63), (1, 0, v1), (2, 0, v2), (3, 0, v3), (4, 0, v4), (5, 0, v5)] [] m (fun r m1 => m1 = m ∧ Q r)) (fun _ _ => gh_F m) (fun K29 v4 v5 hK hF h => b_Model_costOf_29 d hK v4 v5 hF h) 0 v2 hF h
def f_Model_betters_43 (v1 : Int) (v3 : Int) (v4 : Int) (v5 : Int) (K30 : Int → Int → gh_M → Prop) (K43 : Int → Int → gh_M → Prop) (v2 : Int) (v6 : Int) (m : gh_M) : Prop := ((v6 ≤ (m 63 50) → (gh_i (405 * v1) ∧ gh_i (81 * v3) ∧ gh_i ((405 * v1) + (81 * v3)) ∧ gh_i (9 * v4) ∧ gh_i (((405 * v1) + (81 * v3)) + (9 * v4)) ∧ gh_i ((((405 * v1) + (81 * v3)) + (9 * v4)) + v5)) ∧ 0 ≤ ((((405 * v1) + (81 * v3)) + (9 * v4)) + v5) ∧ (((((405 * v1) + (81 * v3)) + (9 * v4)) + v5)) < 8100 ∧ gh_i (4 * v1) ∧ gh_i ((4 * v1) + v3) ∧ 0 ≤ (4 * v1) + v3 ∧ ((4 * v1) + v3) < 80 ∧ w_Model_costOf (m 81 ((4 * v1) + v3)) v5 v6 m (fun r4006 => k_Model_sumOf (m 103 (((((405 * v1) + (81 * v3)) + (9 * v4)) + v5))) r4006 ∧ ∀ v7 : Int, v7 = x_Model_sumOf (m 103 (((((405 * v1) + (81 * v3)) + (9 * v4)) + v5))) r4006 → gh_i (v3 + 1) ∧ (gh_i (405 * v1) ∧ gh_i (81 * (v3 + 1)) ∧ gh_i ((405 * v1) + (81 * (v3 + 1))) ∧ gh_i (9 * v4) ∧ gh_i (((405 * v1) + (81 * (v3 + 1))) + (9 * v4)) ∧ gh_i ((((405 * v1) + (81 * (v3 + 1))) + (9 * v4)) + v6)) ∧ 0 ≤ ((((405 * v1) + (81 * (v3 + 1))) + (9 * v4)) + v6) ∧ (((((405 * v1) + (81 * (v3 + 1))) + (9 * v4)) + v6)) < 8100 ∧ ∃ J130 : Int → gh_M → Prop, (∀ (v2' : Int) (m : gh_M), J130 v2' m → gh_i (v6 + 1) ∧ K43 v2' (v6 + 1) m) ∧ ((v7 < (m 103 (((((405 * v1) + (81 * (v3 + 1))) + (9 * v4)) + v6))) → gh_i (v3 + 1) ∧ (gh_i (405 * v1) ∧ gh_i (81 * (v3 + 1)) ∧ gh_i ((405 * v1) + (81 * (v3 + 1))) ∧ gh_i (9 * v4) ∧ gh_i (((405 * v1) + (81 * (v3 + 1))) + (9 * v4)) ∧ gh_i ((((405 * v1) + (81 * (v3 + 1))) + (9 * v4)) + v6)) ∧ 0 ≤ ((((405 * v1) + (81 * (v3 + 1))) + (9 * v4)) + v6) ∧ (((((405 * v1) + (81 * (v3 + 1))) + (9 * v4)) + v6)) < 8100 ∧ J130 1 (gh_u m 103 (((((405 * v1) + (81 * (v3 + 1))) + (9 * v4)) + v6)) v7)) ∧ (¬ (v7 < (m 103 (((((405 * v1) + (81 * (v3 + 1))) + (9 * v4)) + v6)))) → J130 v2 m)))) ∧ (¬ (v6 ≤ (m 63 50)) → gh_i (v5 + 1) ∧ K30 v2 (v5 + 1) m))
def f_Model_betters_30 (v1 : Int) (v3 : Int) (v4 : Int) (K17 : Int → Int → gh_M → Prop) (K30 : Int → Int → gh_M → Prop) (v2 : Int) (v5 : Int) (m : gh_M) : Prop := ((v5 ≤ (m 63 50) → gh_M2 (fun K43 v2 v6 m => f_Model_betters_43 v1 v3 v4 v5 K30 K43 v2 v6 m) v2 v5 m) ∧ (¬ (v5 ≤ (m 63 50)) → gh_i (v4 + 1) ∧ K17 v2 (v4 + 1) m))
def f_Model_betters_17 (v1 : Int) (v3 : Int) (K4 : Int → Int → gh_M → Prop) (K17 : Int → Int → gh_M → Prop) (v2 : Int) (v4 : Int) (m : gh_M) : Prop := ((v4 ≤ (m 63 50) → gh_M2 (fun K30 v2 v5 m => f_Model_betters_30 v1 v3 v4 K17 K30 v2 v5 m) v2 v4 m) ∧ (¬ (v4 ≤ (m 63 50)) → gh_i (v3 + 1) ∧ K4 v2 (v3 + 1) m))
def f_Model_betters_156 (v1 : Int) (Q : Int → gh_M → Prop) (K156 : Int → Int → gh_M → Prop) (v2 : Int) (v3 : Int) (m : gh_M) : Prop := ((v3 < 81 → gh_i (405 * v1) ∧ 0 ≤ v1 ∧ v1 < 20 ∧ gh_i (81 * (m 80 v1)) ∧ gh_i ((405 * v1) + (81 * (m 80 v1))) ∧ gh_i (((405 * v1) + (81 * (m 80 v1))) + v3) ∧ 0 ≤ ((405 * v1) + (81 * (m 80 v1))) + v3 ∧ (((405 * v1) + (81 * (m 80 v1))) + v3) < 8100 ∧ ∀ v4 : Int, v4 = m 103 (((405 * v1) + (81 * (m 80 v1))) + v3) → 0 ≤ v1 ∧ v1 < 20 ∧ gh_i (81 * (m 79 v1)) ∧ gh_i ((81 * (m 79 v1)) + v3) ∧ 0 ≤ (81 * (m 79 v1)) + v3 ∧ ((81 * (m 79 v1)) + v3) < 648 ∧ ∃ J227 : Int → gh_M → Prop, (∀ (v2' : Int) (m : gh_M), J227 v2' m → gh_i (v3 + 1) ∧ K156 v2' (v3 + 1) m) ∧ ((v4 < (m 102 ((81 * (m 79 v1)) + v3)) → 0 ≤ v1 ∧ v1 < 20 ∧ gh_i (81 * (m 79 v1)) ∧ gh_i ((81 * (m 79 v1)) + v3) ∧ 0 ≤ (81 * (m 79 v1)) + v3 ∧ ((81 * (m 79 v1)) + v3) < 648 ∧ J227 1 (gh_u m 102 ((81 * (m 79 v1)) + v3) v4)) ∧ (¬ (v4 < (m 102 ((81 * (m 79 v1)) + v3))) → J227 v2 m))) ∧ (¬ (v3 < 81) → (v2 = 0 ∨ v2 = 1) ∧ Q v2 m))
def f_Model_betters_4 (v1 : Int) (Q : Int → gh_M → Prop) (K4 : Int → Int → gh_M → Prop) (v2 : Int) (v3 : Int) (m : gh_M) : Prop := 0 ≤ v1 ∧ v1 < 20 ∧ ((v3 < (m 80 v1) → gh_M2 (fun K17 v2 v4 m => f_Model_betters_17 v1 v3 K4 K17 v2 v4 m) v2 0 m) ∧ (¬ (v3 < (m 80 v1)) → gh_M2 (fun K156 v2 v3 m => f_Model_betters_156 v1 Q K156 v2 v3 m) v2 0 m))
def w_Model_betters (v1 : Int) (m : gh_M) (Q : Int → gh_M → Prop) : Prop := gh_M2 (fun K4 v2 v3 m => f_Model_betters_4 v1 Q K4 v2 v3 m) 0 0 m
theorem b_Model_betters_43 {E : gh_E} {v1 : Int} {v3 : Int} {v4 : Int} {v5 : Int} {K30 : Int → Int → gh_M → Prop} {Q : Int → gh_M → Prop} {K43 : Int → Int → gh_M → Prop} (d : Nat) (hK30 : ∀ (v2 : Int) (v5 : Int) (m : gh_M), gh_F m → K30 v2 v5 m → gh_T E (gh_yModel_betters.cls, prog_14_method_86_code, 8, false, 8) (d + 1) 30 [(0, 2, 63), (1, 0, v1), (2, 0, v2), (3, 0, v3), (4, 0, v4), (5, 0, v5)] [] m (fun r m1 => gh_F m1 ∧ Q r m1)) (hK : ∀ (v2 : Int) (v6 : Int) (m : gh_M), gh_F m → K43 v2 v6 m → gh_T E (gh_yModel_betters.cls, prog_14_method_86_code, 8, false, 8) (d + 1) 43 [(0, 2, 63), (1, 0, v1), (2, 0, v2), (3, 0, v3), (4, 0, v4), (5, 0, v5), (6, 0, v6)] [] m (fun r m1 => gh_F m1 ∧ Q r m1)) (v2 : Int) (v6 : Int) (m : gh_M) (hF : gh_F m) (h : f_Model_betters_43 v1 v3 v4 v5 K30 K43 v2 v6 m) : gh_T E (gh_yModel_betters.cls, prog_14_method_86_code, 8, false, 8) (d + 1) 43 [(0, 2, 63), (1, 0, v1), (2, 0, v2), (3, 0, v3), (4, 0, v4), (5, 0, v5), (6, 0, v6)] [] m (fun r m1 => gh_F m1 ∧ Q r m1) := by
  have hK43 := hK
  unfold f_Model_betters_43 at h
  refine gh_iload gd_Model_betters_43 6 rfl ?_
  refine gh_aload_n gd_Model_betters_45 0 rfl (by decide) ?_
  refine gf_63_50 gd_Model_betters_46 gh_k1417 hF rfl ?_
  obtain ⟨hA, hB⟩ := h
  refine gh_jgt (tgt := 136) gd_Model_betters_49 (by decide) (fun c3998 => ?_) (fun c3998 => ?_)
  · have h := hA c3998
    refine gh_aload_n gd_Model_betters_52 0 rfl (by decide) ?_
    refine gf_63_59 gd_Model_betters_53 gh_k1426 hF ?_
    refine gh_iload_n gd_Model_betters_56 1 rfl ?_
    refine gh_iload_n gd_Model_betters_57 3 rfl ?_
    refine gh_iload gd_Model_betters_58 4 rfl ?_
    refine gh_iload gd_Model_betters_60 5 rfl ?_
    obtain ⟨q3999, h⟩ := h
    refine cv_Model_begun (d := d) gd_Model_betters_62 gh_k1904 (Nat.le_of_ble_eq_true rfl) (gh_C.pe (e_Model_begun d v1 v3 v4 v5 q3999) ?_)
    obtain ⟨q4000, h⟩ := h
    obtain ⟨q4001, h⟩ := h
    refine la_103 gd_Model_betters_65 hF q4000 q4001 rfl ?_
    refine gh_aload_n gd_Model_betters_66 0 rfl (by decide) ?_
    refine gh_aload_n gd_Model_betters_67 0 rfl (by decide) ?_
    refine gf_63_34 gd_Model_betters_68 gh_k1401 hF ?_
    refine gh_iconst gd_Model_betters_71 (gh_r0 rfl) ?_
    refine gh_iload_n gd_Model_betters_72 1 rfl ?_
    obtain ⟨q4002, h⟩ := h
    refine gh_imul gd_Model_betters_73 q4002 ?_
    refine gh_iload_n gd_Model_betters_74 3 rfl ?_
    obtain ⟨q4003, h⟩ := h
    refine gh_iadd gd_Model_betters_75 q4003 ?_
    obtain ⟨q4004, h⟩ := h
    obtain ⟨q4005, h⟩ := h
    refine la_81 gd_Model_betters_76 hF q4004 q4005 rfl ?_
    refine gh_iload gd_Model_betters_77 5 rfl ?_
    refine gh_iload gd_Model_betters_79 6 rfl ?_
    refine cv_Model_costOf (d := d) gd_Model_betters_81 gh_k1958 hF (Nat.le_of_ble_eq_true rfl) (gh_C.pw (s_Model_costOf d (m 81 ((4 * v1) + v3)) v5 v6 hF h) (fun r4006 h => ?_))
    obtain ⟨q4008, h⟩ := h
    refine cv_Model_sumOf (d := d) gd_Model_betters_84 gh_k1947 (Nat.le_of_ble_eq_true rfl) (gh_C.pe (e_Model_sumOf d (m 103 (((((405 * v1) + (81 * v3)) + (9 * v4)) + v5))) r4006 q4008) ?_)
    refine gh_name (fun v7 hn => ?_)
    have h := h v7 hn
    refine gh_istore (L2 := [(7, 0, v7), (0, 2, 63), (1, 0, v1), (2, 0, v2), (3, 0, v3), (4, 0, v4), (5, 0, v5), (6, 0, v6)]) gd_Model_betters_87 (by decide) rfl ?_
    refine gh_iload gd_Model_betters_89 0 rfl ?_
    refine gh_aload_n gd_Model_betters_91 1 rfl (by decide) ?_
    refine gf_63_59 gd_Model_betters_92 gh_k1426 hF ?_
    refine gh_iload_n gd_Model_betters_95 2 rfl ?_
    refine gh_iload_n gd_Model_betters_96 4 rfl ?_
    refine gh_iconst gd_Model_betters_97 (gh_r0 rfl) ?_
    obtain ⟨q4009, h⟩ := h
    refine gh_iadd gd_Model_betters_98 q4009 ?_
    refine gh_iload gd_Model_betters_99 5 rfl ?_
    refine gh_iload gd_Model_betters_101 7 rfl ?_
    obtain ⟨q4010, h⟩ := h
    refine cv_Model_begun (d := d) gd_Model_betters_103 gh_k1904 (Nat.le_of_ble_eq_true rfl) (gh_C.pe (e_Model_begun d v1 (v3 + 1) v4 v6 q4010) ?_)
    obtain ⟨q4011, h⟩ := h
    obtain ⟨q4012, h⟩ := h
    refine la_103 gd_Model_betters_106 hF q4011 q4012 rfl ?_
    obtain ⟨J130, hJ130, h⟩ := h
    have hJ130 : ∀ (v2' : Int) (m : gh_M), gh_F m → J130 v2' m → gh_T E (gh_yModel_betters.cls, prog_14_method_86_code, 8, false, 8) (d + 1) 130 [(0, 2, 63), (1, 0, v1), (2, 0, v2'), (3, 0, v3), (4, 0, v4), (5, 0, v5), (6, 0, v6)] [] m (fun r m1 => gh_F m1 ∧ Q r m1) := by
      intro v2' m hF hj
      have h := hJ130 v2' m hj
      obtain ⟨q4013, h⟩ := h
      refine gh_iinc (L2 := [(6, 0, v6 + 1), (0, 2, 63), (1, 0, v1), (2, 0, v2'), (3, 0, v3), (4, 0, v4), (5, 0, v5)]) gd_Model_betters_130 6 rfl q4013 (by decide) rfl ?_
      refine gh_goto (tgt := 43) gd_Model_betters_133 (by decide) ?_
      refine gh_pick (L2 := [(0, 2, 63), (1, 0, v1), (2, 0, v2'), (3, 0, v3), (4, 0, v4), (5, 0, v5), (6, 0, v6 + 1)]) [1, 2, 3, 4, 5, 6, 0] rfl ?_
      exact hK43 v2' (v6 + 1) m hF h
    obtain ⟨hA, hB⟩ := h
    refine gh_jge (tgt := 130) gd_Model_betters_107 (by decide) (fun c4014 => ?_) (fun c4014 => ?_)
    · have h := hA c4014
      refine gh_aload_n gd_Model_betters_110 1 rfl (by decide) ?_
      refine gf_63_59 gd_Model_betters_111 gh_k1426 hF ?_
      refine gh_iload_n gd_Model_betters_114 2 rfl ?_
      refine gh_iload_n gd_Model_betters_115 4 rfl ?_
      refine gh_iconst gd_Model_betters_116 (gh_r0 rfl) ?_
      obtain ⟨q4015, h⟩ := h
      refine gh_iadd gd_Model_betters_117 q4015 ?_
      refine gh_iload gd_Model_betters_118 5 rfl ?_
      refine gh_iload gd_Model_betters_120 7 rfl ?_
      obtain ⟨q4016, h⟩ := h
      refine cv_Model_begun (d := d) gd_Model_betters_122 gh_k1904 (Nat.le_of_ble_eq_true rfl) (gh_C.pe (e_Model_begun d v1 (v3 + 1) v4 v6 q4016) ?_)
      refine gh_iload gd_Model_betters_125 0 rfl ?_
      obtain ⟨q4017, h⟩ := h
      obtain ⟨q4018, h⟩ := h
      refine sa_103 gd_Model_betters_127 hF q4017 q4018 (fun hF => ?_)
      refine gh_iconst gd_Model_betters_128 (gh_r0 rfl) ?_
      refine gh_istore_n (L2 := [(2, 0, 1), (7, 0, v7), (0, 2, 63), (1, 0, v1), (3, 0, v3), (4, 0, v4), (5, 0, v5), (6, 0, v6)]) gd_Model_betters_129 (by decide) rfl ?_
      refine gh_pick (L2 := [(0, 2, 63), (1, 0, v1), (2, 0, 1), (3, 0, v3), (4, 0, v4), (5, 0, v5), (6, 0, v6)]) [2, 3, 0, 4, 5, 6, 7] rfl ?_
      exact hJ130 1 (gh_u m 103 (((((405 * v1) + (81 * (v3 + 1))) + (9 * v4)) + v6)) v7) hF h
    · have h := hB c4014
      refine gh_pick (L2 := [(0, 2, 63), (1, 0, v1), (2, 0, v2), (3, 0, v3), (4, 0, v4), (5, 0, v5), (6, 0, v6)]) [1, 2, 3, 4, 5, 6, 7] rfl ?_
      exact hJ130 v2 m hF h
  · have h := hB c3998
    obtain ⟨q4019, h⟩ := h
    refine gh_iinc (L2 := [(5, 0, v5 + 1), (0, 2, 63), (1, 0, v1), (2, 0, v2), (3, 0, v3), (4, 0, v4), (6, 0, v6)]) gd_Model_betters_136 5 rfl q4019 (by decide) rfl ?_
    refine gh_goto (tgt := 30) gd_Model_betters_139 (by decide) ?_
    refine gh_pick (L2 := [(0, 2, 63), (1, 0, v1), (2, 0, v2), (3, 0, v3), (4, 0, v4), (5, 0, v5 + 1)]) [1, 2, 3, 4, 5, 0] rfl ?_
    exact hK30 v2 (v5 + 1) m hF h
theorem b_Model_betters_30 {E : gh_E} {v1 : Int} {v3 : Int} {v4 : Int} {K17 : Int → Int → gh_M → Prop} {Q : Int → gh_M → Prop} {K30 : Int → Int → gh_M → Prop} (d : Nat) (hK17 : ∀ (v2 : Int) (v4 : Int) (m : gh_M), gh_F m → K17 v2 v4 m → gh_T E (gh_yModel_betters.cls, prog_14_method_86_code, 8, false, 8) (d + 1) 17 [(0, 2, 63), (1, 0, v1), (2, 0, v2), (3, 0, v3), (4, 0, v4)] [] m (fun r m1 => gh_F m1 ∧ Q r m1)) (hK : ∀ (v2 : Int) (v5 : Int) (m : gh_M), gh_F m → K30 v2 v5 m → gh_T E (gh_yModel_betters.cls, prog_14_method_86_code, 8, false, 8) (d + 1) 30 [(0, 2, 63), (1, 0, v1), (2, 0, v2), (3, 0, v3), (4, 0, v4), (5, 0, v5)] [] m (fun r m1 => gh_F m1 ∧ Q r m1)) (v2 : Int) (v5 : Int) (m : gh_M) (hF : gh_F m) (h : f_Model_betters_30 v1 v3 v4 K17 K30 v2 v5 m) : gh_T E (gh_yModel_betters.cls, prog_14_method_86_code, 8, false, 8) (d + 1) 30 [(0, 2, 63), (1, 0, v1), (2, 0, v2), (3, 0, v3), (4, 0, v4), (5, 0, v5)] [] m (fun r m1 => gh_F m1 ∧ Q r m1) := by
  have hK30 := hK
  unfold f_Model_betters_30 at h
  refine gh_iload gd_Model_betters_30 5 rfl ?_
  refine gh_aload_n gd_Model_betters_32 0 rfl (by decide) ?_
  refine gf_63_50 gd_Model_betters_33 gh_k1417 hF rfl ?_
  obtain ⟨hA, hB⟩ := h
  refine gh_jgt (tgt := 142) gd_Model_betters_36 (by decide) (fun c3997 => ?_) (fun c3997 => ?_)
  · have h := hA c3997
    refine gh_iload gd_Model_betters_39 5 rfl ?_
    refine gh_istore (L2 := [(6, 0, v5), (0, 2, 63), (1, 0, v1), (2, 0, v2), (3, 0, v3), (4, 0, v4), (5, 0, v5)]) gd_Model_betters_41 (by decide) rfl ?_
    refine gh_pick (L2 := [(0, 2, 63), (1, 0, v1), (2, 0, v2), (3, 0, v3), (4, 0, v4), (5, 0, v5), (6, 0, v5)]) [1, 2, 3, 4, 5, 6, 0] rfl ?_
    exact gh_M2_sound (T := fun v2 v6 m => gh_T E (gh_yModel_betters.cls, prog_14_method_86_code, 8, false, 8) (d + 1) 43 [(0, 2, 63), (1, 0, v1), (2, 0, v2), (3, 0, v3), (4, 0, v4), (5, 0, v5), (6, 0, v6)] [] m (fun r m1 => gh_F m1 ∧ Q r m1)) (fun _ _ m => gh_F m) (fun K43 v2 v6 m hK hF h => b_Model_betters_43 d hK30 hK v2 v6 m hF h) v2 v5 m hF h
  · have h := hB c3997
    obtain ⟨q4020, h⟩ := h
    refine gh_iinc (L2 := [(4, 0, v4 + 1), (0, 2, 63), (1, 0, v1), (2, 0, v2), (3, 0, v3), (5, 0, v5)]) gd_Model_betters_142 4 rfl q4020 (by decide) rfl ?_
    refine gh_goto (tgt := 17) gd_Model_betters_145 (by decide) ?_
    refine gh_pick (L2 := [(0, 2, 63), (1, 0, v1), (2, 0, v2), (3, 0, v3), (4, 0, v4 + 1)]) [1, 2, 3, 4, 0] rfl ?_
    exact hK17 v2 (v4 + 1) m hF h
theorem b_Model_betters_17 {E : gh_E} {v1 : Int} {v3 : Int} {K4 : Int → Int → gh_M → Prop} {Q : Int → gh_M → Prop} {K17 : Int → Int → gh_M → Prop} (d : Nat) (hK4 : ∀ (v2 : Int) (v3 : Int) (m : gh_M), gh_F m → K4 v2 v3 m → gh_T E (gh_yModel_betters.cls, prog_14_method_86_code, 8, false, 8) (d + 1) 4 [(0, 2, 63), (1, 0, v1), (2, 0, v2), (3, 0, v3)] [] m (fun r m1 => gh_F m1 ∧ Q r m1)) (hK : ∀ (v2 : Int) (v4 : Int) (m : gh_M), gh_F m → K17 v2 v4 m → gh_T E (gh_yModel_betters.cls, prog_14_method_86_code, 8, false, 8) (d + 1) 17 [(0, 2, 63), (1, 0, v1), (2, 0, v2), (3, 0, v3), (4, 0, v4)] [] m (fun r m1 => gh_F m1 ∧ Q r m1)) (v2 : Int) (v4 : Int) (m : gh_M) (hF : gh_F m) (h : f_Model_betters_17 v1 v3 K4 K17 v2 v4 m) : gh_T E (gh_yModel_betters.cls, prog_14_method_86_code, 8, false, 8) (d + 1) 17 [(0, 2, 63), (1, 0, v1), (2, 0, v2), (3, 0, v3), (4, 0, v4)] [] m (fun r m1 => gh_F m1 ∧ Q r m1) := by
  have hK17 := hK
  unfold f_Model_betters_17 at h
  refine gh_iload gd_Model_betters_17 4 rfl ?_
  refine gh_aload_n gd_Model_betters_19 0 rfl (by decide) ?_
  refine gf_63_50 gd_Model_betters_20 gh_k1417 hF rfl ?_
  obtain ⟨hA, hB⟩ := h
  refine gh_jgt (tgt := 148) gd_Model_betters_23 (by decide) (fun c3996 => ?_) (fun c3996 => ?_)
  · have h := hA c3996
    refine gh_iload gd_Model_betters_26 4 rfl ?_
    refine gh_istore (L2 := [(5, 0, v4), (0, 2, 63), (1, 0, v1), (2, 0, v2), (3, 0, v3), (4, 0, v4)]) gd_Model_betters_28 (by decide) rfl ?_
    refine gh_pick (L2 := [(0, 2, 63), (1, 0, v1), (2, 0, v2), (3, 0, v3), (4, 0, v4), (5, 0, v4)]) [1, 2, 3, 4, 5, 0] rfl ?_
    exact gh_M2_sound (T := fun v2 v5 m => gh_T E (gh_yModel_betters.cls, prog_14_method_86_code, 8, false, 8) (d + 1) 30 [(0, 2, 63), (1, 0, v1), (2, 0, v2), (3, 0, v3), (4, 0, v4), (5, 0, v5)] [] m (fun r m1 => gh_F m1 ∧ Q r m1)) (fun _ _ m => gh_F m) (fun K30 v2 v5 m hK hF h => b_Model_betters_30 d hK17 hK v2 v5 m hF h) v2 v4 m hF h
  · have h := hB c3996
    obtain ⟨q4021, h⟩ := h
    refine gh_iinc (L2 := [(3, 0, v3 + 1), (0, 2, 63), (1, 0, v1), (2, 0, v2), (4, 0, v4)]) gd_Model_betters_148 3 rfl q4021 (by decide) rfl ?_
    refine gh_goto (tgt := 4) gd_Model_betters_151 (by decide) ?_
    refine gh_pick (L2 := [(0, 2, 63), (1, 0, v1), (2, 0, v2), (3, 0, v3 + 1)]) [1, 2, 3, 0] rfl ?_
    exact hK4 v2 (v3 + 1) m hF h
theorem b_Model_betters_156 {E : gh_E} {v1 : Int} {Q : Int → gh_M → Prop} {K156 : Int → Int → gh_M → Prop} (d : Nat) (hK : ∀ (v2 : Int) (v3 : Int) (m : gh_M), gh_F m → K156 v2 v3 m → gh_T E (gh_yModel_betters.cls, prog_14_method_86_code, 8, false, 8) (d + 1) 156 [(0, 2, 63), (1, 0, v1), (2, 0, v2), (3, 0, v3)] [] m (fun r m1 => gh_F m1 ∧ Q r m1)) (v2 : Int) (v3 : Int) (m : gh_M) (hF : gh_F m) (h : f_Model_betters_156 v1 Q K156 v2 v3 m) : gh_T E (gh_yModel_betters.cls, prog_14_method_86_code, 8, false, 8) (d + 1) 156 [(0, 2, 63), (1, 0, v1), (2, 0, v2), (3, 0, v3)] [] m (fun r m1 => gh_F m1 ∧ Q r m1) := by
  have hK156 := hK
  unfold f_Model_betters_156 at h
  refine gh_iload_n gd_Model_betters_156 3 rfl ?_
  refine gh_bipush gd_Model_betters_157 (by decide) (gh_r0 rfl) ?_
  obtain ⟨hA, hB⟩ := h
  refine gh_jge (tgt := 233) gd_Model_betters_159 (by decide) (fun c4022 => ?_) (fun c4022 => ?_)
  · have h := hA c4022
    refine gh_aload_n gd_Model_betters_162 0 rfl (by decide) ?_
    refine gf_63_59 gd_Model_betters_163 gh_k1426 hF ?_
    refine gh_sipush gd_Model_betters_166 (by decide) (gh_r0 rfl) ?_
    refine gh_iload_n gd_Model_betters_169 1 rfl ?_
    obtain ⟨q4023, h⟩ := h
    refine gh_imul gd_Model_betters_170 q4023 ?_
    refine gh_bipush gd_Model_betters_171 (by decide) (gh_r0 rfl) ?_
    refine gh_aload_n gd_Model_betters_173 0 rfl (by decide) ?_
    refine gf_63_33 gd_Model_betters_174 gh_k1400 hF ?_
    refine gh_iload_n gd_Model_betters_177 1 rfl ?_
    obtain ⟨q4024, h⟩ := h
    obtain ⟨q4025, h⟩ := h
    refine la_80 gd_Model_betters_178 hF q4024 q4025 rfl ?_
    obtain ⟨q4026, h⟩ := h
    refine gh_imul gd_Model_betters_179 q4026 ?_
    obtain ⟨q4027, h⟩ := h
    refine gh_iadd gd_Model_betters_180 q4027 ?_
    refine gh_iload_n gd_Model_betters_181 3 rfl ?_
    obtain ⟨q4028, h⟩ := h
    refine gh_iadd gd_Model_betters_182 q4028 ?_
    obtain ⟨q4029, h⟩ := h
    obtain ⟨q4030, h⟩ := h
    refine la_103 gd_Model_betters_183 hF q4029 q4030 rfl ?_
    refine gh_name (fun v4 hn => ?_)
    have h := h v4 hn
    refine gh_istore (L2 := [(4, 0, v4), (0, 2, 63), (1, 0, v1), (2, 0, v2), (3, 0, v3)]) gd_Model_betters_184 (by decide) rfl ?_
    refine gh_iload gd_Model_betters_186 0 rfl ?_
    refine gh_aload_n gd_Model_betters_188 1 rfl (by decide) ?_
    refine gf_63_58 gd_Model_betters_189 gh_k1425 hF ?_
    refine gh_bipush gd_Model_betters_192 (by decide) (gh_r0 rfl) ?_
    refine gh_aload_n gd_Model_betters_194 1 rfl (by decide) ?_
    refine gf_63_32 gd_Model_betters_195 gh_k1399 hF ?_
    refine gh_iload_n gd_Model_betters_198 2 rfl ?_
    obtain ⟨q4031, h⟩ := h
    obtain ⟨q4032, h⟩ := h
    refine la_79 gd_Model_betters_199 hF q4031 q4032 rfl ?_
    obtain ⟨q4033, h⟩ := h
    refine gh_imul gd_Model_betters_200 q4033 ?_
    refine gh_iload_n gd_Model_betters_201 4 rfl ?_
    obtain ⟨q4034, h⟩ := h
    refine gh_iadd gd_Model_betters_202 q4034 ?_
    obtain ⟨q4035, h⟩ := h
    obtain ⟨q4036, h⟩ := h
    refine la_102 gd_Model_betters_203 hF q4035 q4036 rfl ?_
    obtain ⟨J227, hJ227, h⟩ := h
    have hJ227 : ∀ (v2' : Int) (m : gh_M), gh_F m → J227 v2' m → gh_T E (gh_yModel_betters.cls, prog_14_method_86_code, 8, false, 8) (d + 1) 227 [(0, 2, 63), (1, 0, v1), (2, 0, v2'), (3, 0, v3)] [] m (fun r m1 => gh_F m1 ∧ Q r m1) := by
      intro v2' m hF hj
      have h := hJ227 v2' m hj
      obtain ⟨q4037, h⟩ := h
      refine gh_iinc (L2 := [(3, 0, v3 + 1), (0, 2, 63), (1, 0, v1), (2, 0, v2')]) gd_Model_betters_227 3 rfl q4037 (by decide) rfl ?_
      refine gh_goto (tgt := 156) gd_Model_betters_230 (by decide) ?_
      refine gh_pick (L2 := [(0, 2, 63), (1, 0, v1), (2, 0, v2'), (3, 0, v3 + 1)]) [1, 2, 3, 0] rfl ?_
      exact hK156 v2' (v3 + 1) m hF h
    obtain ⟨hA, hB⟩ := h
    refine gh_jge (tgt := 227) gd_Model_betters_204 (by decide) (fun c4038 => ?_) (fun c4038 => ?_)
    · have h := hA c4038
      refine gh_aload_n gd_Model_betters_207 1 rfl (by decide) ?_
      refine gf_63_58 gd_Model_betters_208 gh_k1425 hF ?_
      refine gh_bipush gd_Model_betters_211 (by decide) (gh_r0 rfl) ?_
      refine gh_aload_n gd_Model_betters_213 1 rfl (by decide) ?_
      refine gf_63_32 gd_Model_betters_214 gh_k1399 hF ?_
      refine gh_iload_n gd_Model_betters_217 2 rfl ?_
      obtain ⟨q4039, h⟩ := h
      obtain ⟨q4040, h⟩ := h
      refine la_79 gd_Model_betters_218 hF q4039 q4040 rfl ?_
      obtain ⟨q4041, h⟩ := h
      refine gh_imul gd_Model_betters_219 q4041 ?_
      refine gh_iload_n gd_Model_betters_220 4 rfl ?_
      obtain ⟨q4042, h⟩ := h
      refine gh_iadd gd_Model_betters_221 q4042 ?_
      refine gh_iload gd_Model_betters_222 0 rfl ?_
      obtain ⟨q4043, h⟩ := h
      obtain ⟨q4044, h⟩ := h
      refine sa_102 gd_Model_betters_224 hF q4043 q4044 (fun hF => ?_)
      refine gh_iconst gd_Model_betters_225 (gh_r0 rfl) ?_
      refine gh_istore_n (L2 := [(2, 0, 1), (4, 0, v4), (0, 2, 63), (1, 0, v1), (3, 0, v3)]) gd_Model_betters_226 (by decide) rfl ?_
      refine gh_pick (L2 := [(0, 2, 63), (1, 0, v1), (2, 0, 1), (3, 0, v3)]) [2, 3, 0, 4] rfl ?_
      exact hJ227 1 (gh_u m 102 ((81 * (m 79 v1)) + v3) v4) hF h
    · have h := hB c4038
      refine gh_pick (L2 := [(0, 2, 63), (1, 0, v1), (2, 0, v2), (3, 0, v3)]) [1, 2, 3, 4] rfl ?_
      exact hJ227 v2 m hF h
  · have h := hB c4022
    refine gh_iload_n gd_Model_betters_233 2 rfl ?_
    obtain ⟨q4045, h⟩ := h
    exact gh_ret8 rfl gd_Model_betters_234 q4045 ⟨hF, h⟩
theorem b_Model_betters_4 {E : gh_E} {v1 : Int} {Q : Int → gh_M → Prop} {K4 : Int → Int → gh_M → Prop} (d : Nat) (hK : ∀ (v2 : Int) (v3 : Int) (m : gh_M), gh_F m → K4 v2 v3 m → gh_T E (gh_yModel_betters.cls, prog_14_method_86_code, 8, false, 8) (d + 1) 4 [(0, 2, 63), (1, 0, v1), (2, 0, v2), (3, 0, v3)] [] m (fun r m1 => gh_F m1 ∧ Q r m1)) (v2 : Int) (v3 : Int) (m : gh_M) (hF : gh_F m) (h : f_Model_betters_4 v1 Q K4 v2 v3 m) : gh_T E (gh_yModel_betters.cls, prog_14_method_86_code, 8, false, 8) (d + 1) 4 [(0, 2, 63), (1, 0, v1), (2, 0, v2), (3, 0, v3)] [] m (fun r m1 => gh_F m1 ∧ Q r m1) := by
  have hK4 := hK
  unfold f_Model_betters_4 at h
  refine gh_iload_n gd_Model_betters_4 3 rfl ?_
  refine gh_aload_n gd_Model_betters_5 0 rfl (by decide) ?_
  refine gf_63_33 gd_Model_betters_6 gh_k1400 hF ?_
  refine gh_iload_n gd_Model_betters_9 1 rfl ?_
  obtain ⟨q3993, h⟩ := h
  obtain ⟨q3994, h⟩ := h
  refine la_80 gd_Model_betters_10 hF q3993 q3994 rfl ?_
  obtain ⟨hA, hB⟩ := h
  refine gh_jge (tgt := 154) gd_Model_betters_11 (by decide) (fun c3995 => ?_) (fun c3995 => ?_)
  · have h := hA c3995
    refine gh_iconst gd_Model_betters_14 (gh_r0 rfl) ?_
    refine gh_istore (L2 := [(4, 0, 0), (0, 2, 63), (1, 0, v1), (2, 0, v2), (3, 0, v3)]) gd_Model_betters_15 (by decide) rfl ?_
    refine gh_pick (L2 := [(0, 2, 63), (1, 0, v1), (2, 0, v2), (3, 0, v3), (4, 0, 0)]) [1, 2, 3, 4, 0] rfl ?_
    exact gh_M2_sound (T := fun v2 v4 m => gh_T E (gh_yModel_betters.cls, prog_14_method_86_code, 8, false, 8) (d + 1) 17 [(0, 2, 63), (1, 0, v1), (2, 0, v2), (3, 0, v3), (4, 0, v4)] [] m (fun r m1 => gh_F m1 ∧ Q r m1)) (fun _ _ m => gh_F m) (fun K17 v2 v4 m hK hF h => b_Model_betters_17 d hK4 hK v2 v4 m hF h) v2 0 m hF h
  · have h := hB c3995
    refine gh_iconst gd_Model_betters_154 (gh_r0 rfl) ?_
    refine gh_istore_n (L2 := [(3, 0, 0), (0, 2, 63), (1, 0, v1), (2, 0, v2)]) gd_Model_betters_155 (by decide) rfl ?_
    refine gh_pick (L2 := [(0, 2, 63), (1, 0, v1), (2, 0, v2), (3, 0, 0)]) [1, 2, 3, 0] rfl ?_
    exact gh_M2_sound (T := fun v2 v3 m => gh_T E (gh_yModel_betters.cls, prog_14_method_86_code, 8, false, 8) (d + 1) 156 [(0, 2, 63), (1, 0, v1), (2, 0, v2), (3, 0, v3)] [] m (fun r m1 => gh_F m1 ∧ Q r m1)) (fun _ _ m => gh_F m) (fun K156 v2 v3 m hK hF h => b_Model_betters_156 d hK v2 v3 m hF h) v2 0 m hF h
theorem s_Model_betters {E : gh_E} {m : gh_M} {Q : Int → gh_M → Prop} (d : Nat) (v1 : Int) (hF : gh_F m) (h : w_Model_betters v1 m Q) : gh_C E gh_yModel_betters prog_14_method_86_code 8 (some .boolean) 8 (d + 1) [(2, 63), (0, v1)] m (fun r m1 => gh_F m1 ∧ Q r m1) := by
  refine gh_enter2 (L := [(0, 2, 63), (1, 0, v1)]) (by decide +kernel) gh_rt8 (Nat.le_of_ble_eq_true rfl) rfl rfl ?_
  unfold w_Model_betters at h
  refine gh_iconst gd_Model_betters_0 (gh_r0 rfl) ?_
  refine gh_istore_n (L2 := [(2, 0, 0), (0, 2, 63), (1, 0, v1)]) gd_Model_betters_1 (by decide) rfl ?_
  refine gh_iconst gd_Model_betters_2 (gh_r0 rfl) ?_
  refine gh_istore_n (L2 := [(3, 0, 0), (2, 0, 0), (0, 2, 63), (1, 0, v1)]) gd_Model_betters_3 (by decide) rfl ?_
  refine gh_pick (L2 := [(0, 2, 63), (1, 0, v1), (2, 0, 0), (3, 0, 0)]) [2, 3, 1, 0] rfl ?_
  exact gh_M2_sound (T := fun v2 v3 m => gh_T E (gh_yModel_betters.cls, prog_14_method_86_code, 8, false, 8) (d + 1) 4 [(0, 2, 63), (1, 0, v1), (2, 0, v2), (3, 0, v3)] [] m (fun r m1 => gh_F m1 ∧ Q r m1)) (fun _ _ m => gh_F m) (fun K4 v2 v3 m hK hF h => b_Model_betters_4 d hK v2 v3 m hF h) 0 0 m hF h
