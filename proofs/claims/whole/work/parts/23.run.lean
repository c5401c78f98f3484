def f_Model_rowMakes_50 (v1 : Int) (v2 : Int) (v3 : Int) (v4 : Int) (v5 : Int) (v6 : Int) (v8 : Int) (K38 : Int → Int → Prop) (m : gh_M) (K50 : Int → Int → Prop) (v7 : Int) (v9 : Int) : Prop := ∃ J152 : Int → Prop, (∀ (v7' : Int), J152 v7' → gh_i (v8 + 1) ∧ K38 v7' (v8 + 1)) ∧ ((((v9 ≤ v3) ∧ ((gh_iand_f (gh_ishr_f v4 v8) 1) = 1)) → (((v6 ≤ 0) → (gh_i ((-1) - v6) ∧ gh_i (81 * ((-1) - v6)) ∧ gh_i (9 * v8) ∧ gh_i ((81 * ((-1) - v6)) + (9 * v8)) ∧ gh_i (((81 * ((-1) - v6)) + (9 * v8)) + v9) ∧ 0 ≤ ((81 * ((-1) - v6)) + (9 * v8)) + v9 ∧ (((81 * ((-1) - v6)) + (9 * v8)) + v9) < 648)) ∧ (¬ (v6 ≤ 0) → (gh_i (v8 + 1) ∧ ((v9 = (v8 + 1)) → (0 ≤ v8 ∧ v8 < 8))))) ∧ ∀ v10 : Int, v10 = (if v6 ≤ 0 then (m 104 (((81 * ((-1) - v6)) + (9 * v8)) + v9)) else (if v9 = (v8 + 1) then (if (gh_iand_f (gh_ishr_f v6 (m 96 v8)) 1) = 1 then 1 else 0) else 0)) → ∀ v7' : Int, v7' = gh_ior_f v7 (if v10 = 0 then 0 else (gh_ishl_f 1 v9)) → gh_i (v9 + 1) ∧ K50 v7' (v9 + 1)) ∧ (¬ ((v9 ≤ v3) ∧ ((gh_iand_f (gh_ishr_f v4 v8) 1) = 1)) → J152 v7))
def f_Model_rowMakes_38 (v1 : Int) (v2 : Int) (v3 : Int) (v4 : Int) (v5 : Int) (v6 : Int) (K8 : Int → Int → Prop) (m : gh_M) (K38 : Int → Int → Prop) (v7 : Int) (v8 : Int) : Prop := ((v8 < v3 → gh_i (v8 + 1) ∧ ∀ v9 : Int, v9 = v8 + 1 → gh_L2 (fun K50 v7 v9 => f_Model_rowMakes_50 v1 v2 v3 v4 v5 v6 v8 K38 m K50 v7 v9) v7 v9) ∧ (¬ (v8 < v3) → gh_i (v5 + 1) ∧ K8 v7 (v5 + 1)))
def f_Model_rowMakes_8 (v1 : Int) (v2 : Int) (v3 : Int) (Q : Int → Prop) (m : gh_M) (K8 : Int → Int → Prop) (v4 : Int) (v5 : Int) : Prop := 0 ≤ v1 ∧ v1 < 320 ∧ ((v5 < (m 89 v1) → gh_i (4 * v1) ∧ gh_i ((4 * v1) + v5) ∧ 0 ≤ (4 * v1) + v5 ∧ ((4 * v1) + v5) < 1280 ∧ ∀ v6 : Int, v6 = m 90 ((4 * v1) + v5) → gh_L2 (fun K38 v7 v8 => f_Model_rowMakes_38 v1 v2 v3 v4 v5 v6 K8 m K38 v7 v8) 0 v2) ∧ (¬ (v5 < (m 89 v1)) → Q (if ((gh_iand_f (gh_ishr_f v4 v3) 1) = 1) then (1:Int) else 0)))
def w_Model_rowMakes (v1 : Int) (v2 : Int) (v3 : Int) (m : gh_M) (Q : Int → Prop) : Prop := ∀ v4 : Int, v4 = gh_ishl_f 1 v2 → gh_L2 (fun K8 v4 v5 => f_Model_rowMakes_8 v1 v2 v3 Q m K8 v4 v5) v4 0
theorem b_Model_rowMakes_50 {E : gh_E} {v1 : Int} {v2 : Int} {v3 : Int} {v4 : Int} {v5 : Int} {v6 : Int} {v8 : Int} {K38 : Int → Int → Prop} {Q : Int → Prop} {K50 : Int → Int → Prop} (d : Nat) {m : gh_M} (hK38 : ∀ (v7 : Int) (v8 : Int), gh_F m → K38 v7 v8 → gh_T E (gh_yModel_rowMakes.cls, prog_14_method_65_code, 11, false, 8) (d + 0) 38 [(0, 2, 63), (1, 0, v1), (2, 0, v2), (3, 0, v3), (4, 0, v4), (5, 0, v5), (6, 0, v6), (7, 0, v7), (8, 0, v8)] [] m (fun r m1 => m1 = m ∧ Q r)) (hK : ∀ (v7 : Int) (v9 : Int), gh_F m → K50 v7 v9 → gh_T E (gh_yModel_rowMakes.cls, prog_14_method_65_code, 11, false, 8) (d + 0) 50 [(0, 2, 63), (1, 0, v1), (2, 0, v2), (3, 0, v3), (4, 0, v4), (5, 0, v5), (6, 0, v6), (7, 0, v7), (8, 0, v8), (9, 0, v9)] [] m (fun r m1 => m1 = m ∧ Q r)) (v7 : Int) (v9 : Int) (hF : gh_F m) (h : f_Model_rowMakes_50 v1 v2 v3 v4 v5 v6 v8 K38 m K50 v7 v9) : gh_T E (gh_yModel_rowMakes.cls, prog_14_method_65_code, 11, false, 8) (d + 0) 50 [(0, 2, 63), (1, 0, v1), (2, 0, v2), (3, 0, v3), (4, 0, v4), (5, 0, v5), (6, 0, v6), (7, 0, v7), (8, 0, v8), (9, 0, v9)] [] m (fun r m1 => m1 = m ∧ Q r) := by
  have hK50 := hK
  unfold f_Model_rowMakes_50 at h
  refine gh_iload gd_Model_rowMakes_50 9 rfl ?_
  refine gh_iload_n gd_Model_rowMakes_52 3 rfl ?_
  obtain ⟨J152, hJ152, h⟩ := h
  have hJ152 : ∀ (v7' : Int), gh_F m → J152 v7' → gh_T E (gh_yModel_rowMakes.cls, prog_14_method_65_code, 11, false, 8) (d + 0) 152 [(0, 2, 63), (1, 0, v1), (2, 0, v2), (3, 0, v3), (4, 0, v4), (5, 0, v5), (6, 0, v6), (7, 0, v7'), (8, 0, v8)] [] m (fun r m1 => m1 = m ∧ Q r) := by
    intro v7' hF hj
    have h := hJ152 v7' hj
    obtain ⟨q3519, h⟩ := h
    refine gh_iinc (L2 := [(8, 0, v8 + 1), (0, 2, 63), (1, 0, v1), (2, 0, v2), (3, 0, v3), (4, 0, v4), (5, 0, v5), (6, 0, v6), (7, 0, v7')]) gd_Model_rowMakes_152 8 rfl q3519 (by decide) rfl ?_
    refine gh_goto (tgt := 38) gd_Model_rowMakes_155 (by decide) ?_
    refine gh_pick (L2 := [(0, 2, 63), (1, 0, v1), (2, 0, v2), (3, 0, v3), (4, 0, v4), (5, 0, v5), (6, 0, v6), (7, 0, v7'), (8, 0, v8 + 1)]) [1, 2, 3, 4, 5, 6, 7, 8, 0] rfl ?_
    exact hK38 v7' (v8 + 1) hF h
  obtain ⟨hA, hB⟩ := h
  have k3520 : ((v9 ≤ v3) ∧ ((gh_iand_f (gh_ishr_f v4 v8) 1) = 1)) → gh_T E (gh_yModel_rowMakes.cls, prog_14_method_65_code, 11, false, 8) (d + 0) 67 [(0, 2, 63), (1, 0, v1), (2, 0, v2), (3, 0, v3), (4, 0, v4), (5, 0, v5), (6, 0, v6), (7, 0, v7), (8, 0, v8), (9, 0, v9)] [] m (fun r m1 => m1 = m ∧ Q r) := by
    intro c
    have h := hA c
    refine gh_iload gd_Model_rowMakes_67 6 rfl ?_
    obtain ⟨hk, h⟩ := h
    have k3532 : ∀ x3533 : Int, x3533 = (if v6 ≤ 0 then (m 104 (((81 * ((-1) - v6)) + (9 * v8)) + v9)) else (if v9 = (v8 + 1) then (if (gh_iand_f (gh_ishr_f v6 (m 96 v8)) 1) = 1 then 1 else 0) else 0)) → gh_T E (gh_yModel_rowMakes.cls, prog_14_method_65_code, 11, false, 8) (d + 0) 126 [(0, 2, 63), (1, 0, v1), (2, 0, v2), (3, 0, v3), (4, 0, v4), (5, 0, v5), (6, 0, v6), (7, 0, v7), (8, 0, v8), (9, 0, v9)] [(0, x3533)] m (fun r m1 => m1 = m ∧ Q r) := by
      rintro _ rfl
      refine gh_name (fun v10 hn => ?_)
      have h := h v10 hn
      refine gh_istore (L2 := [(10, 0, v10), (0, 2, 63), (1, 0, v1), (2, 0, v2), (3, 0, v3), (4, 0, v4), (5, 0, v5), (6, 0, v6), (7, 0, v7), (8, 0, v8), (9, 0, v9)]) gd_Model_rowMakes_126 (by decide) rfl ?_
      refine gh_iload gd_Model_rowMakes_128 8 rfl ?_
      refine gh_iload gd_Model_rowMakes_130 0 rfl ?_
      have k3534 : ∀ x3535 : Int, x3535 = (if v10 = 0 then 0 else (gh_ishl_f 1 v9)) → gh_T E (gh_yModel_rowMakes.cls, prog_14_method_65_code, 11, false, 8) (d + 0) 143 [(10, 0, v10), (0, 2, 63), (1, 0, v1), (2, 0, v2), (3, 0, v3), (4, 0, v4), (5, 0, v5), (6, 0, v6), (7, 0, v7), (8, 0, v8), (9, 0, v9)] [(0, x3535), (0, v7)] m (fun r m1 => m1 = m ∧ Q r) := by
        rintro _ rfl
        refine gh_ior gd_Model_rowMakes_143 ?_
        refine gh_name (fun v7' hn => ?_)
        have h := h v7' hn
        refine gh_istore (L2 := [(7, 0, v7'), (10, 0, v10), (0, 2, 63), (1, 0, v1), (2, 0, v2), (3, 0, v3), (4, 0, v4), (5, 0, v5), (6, 0, v6), (8, 0, v8), (9, 0, v9)]) gd_Model_rowMakes_144 (by decide) rfl ?_
        obtain ⟨q3536, h⟩ := h
        refine gh_iinc (L2 := [(9, 0, v9 + 1), (7, 0, v7'), (10, 0, v10), (0, 2, 63), (1, 0, v1), (2, 0, v2), (3, 0, v3), (4, 0, v4), (5, 0, v5), (6, 0, v6), (8, 0, v8)]) gd_Model_rowMakes_146 10 rfl q3536 (by decide) rfl ?_
        refine gh_goto (tgt := 50) gd_Model_rowMakes_149 (by decide) ?_
        refine gh_pick (L2 := [(0, 2, 63), (1, 0, v1), (2, 0, v2), (3, 0, v3), (4, 0, v4), (5, 0, v5), (6, 0, v6), (7, 0, v7'), (8, 0, v8), (9, 0, v9 + 1)]) [3, 4, 5, 6, 7, 8, 9, 1, 10, 0] rfl ?_
        exact hK50 v7' (v9 + 1) hF h
      refine gh_zeq (tgt := 142) gd_Model_rowMakes_132 (by decide) (fun c3537 => ?_) (fun c3537 => ?_)
      · have hz : True := trivial
        refine gh_iconst gd_Model_rowMakes_142 (gh_r0 rfl) ?_
        exact k3534 _ (by rw [if_pos c3537])
      · have hz : True := trivial
        refine gh_iconst gd_Model_rowMakes_135 (gh_r0 rfl) ?_
        refine gh_iload gd_Model_rowMakes_136 10 rfl ?_
        refine gh_ishl gd_Model_rowMakes_138 ?_
        refine gh_goto (tgt := 143) gd_Model_rowMakes_139 (by decide) ?_
        exact k3534 _ (by rw [if_neg c3537])
    refine gh_zle (tgt := 105) gd_Model_rowMakes_69 (by decide) (fun c3538 => ?_) (fun c3538 => ?_)
    · have hz : True := trivial
      have hk := hk.1 c3538
      refine gh_aload_n gd_Model_rowMakes_105 0 rfl (by decide) ?_
      refine gf_63_60 gd_Model_rowMakes_106 gh_k1430 hF ?_
      refine gh_bipush gd_Model_rowMakes_109 (by decide) (gh_r0 rfl) ?_
      refine gh_iconst gd_Model_rowMakes_111 (gh_r0 rfl) ?_
      refine gh_iload gd_Model_rowMakes_112 6 rfl ?_
      obtain ⟨q3522, hk⟩ := hk
      refine gh_isub gd_Model_rowMakes_114 q3522 ?_
      obtain ⟨q3523, hk⟩ := hk
      refine gh_imul gd_Model_rowMakes_115 q3523 ?_
      refine gh_bipush gd_Model_rowMakes_116 (by decide) (gh_r0 rfl) ?_
      refine gh_iload gd_Model_rowMakes_118 8 rfl ?_
      obtain ⟨q3524, hk⟩ := hk
      refine gh_imul gd_Model_rowMakes_120 q3524 ?_
      obtain ⟨q3525, hk⟩ := hk
      refine gh_iadd gd_Model_rowMakes_121 q3525 ?_
      refine gh_iload gd_Model_rowMakes_122 9 rfl ?_
      obtain ⟨q3526, hk⟩ := hk
      refine gh_iadd gd_Model_rowMakes_124 q3526 ?_
      obtain ⟨q3527, hk⟩ := hk
      have q3528 := hk
      refine la_104 gd_Model_rowMakes_125 hF q3527 q3528 rfl ?_
      exact k3532 _ (by rw [if_pos c3538])
    · have hz : True := trivial
      have hk := hk.2 c3538
      refine gh_iload gd_Model_rowMakes_72 9 rfl ?_
      refine gh_iload gd_Model_rowMakes_74 8 rfl ?_
      refine gh_iconst gd_Model_rowMakes_76 (gh_r0 rfl) ?_
      obtain ⟨q3529, hk⟩ := hk
      refine gh_iadd gd_Model_rowMakes_77 q3529 ?_
      refine gh_jne (tgt := 101) gd_Model_rowMakes_78 (by decide) (fun c3539 => ?_) (fun c3539 => ?_)
      · have hz : True := trivial
        have hk := hk c3539
        refine gh_iload gd_Model_rowMakes_81 6 rfl ?_
        refine gh_aload_n gd_Model_rowMakes_83 0 rfl (by decide) ?_
        refine gf_63_51 gd_Model_rowMakes_84 gh_k1421 hF ?_
        refine gh_iload gd_Model_rowMakes_87 8 rfl ?_
        obtain ⟨q3530, hk⟩ := hk
        have q3531 := hk
        refine la_96 gd_Model_rowMakes_89 hF q3530 q3531 rfl ?_
        refine gh_ishr gd_Model_rowMakes_90 ?_
        refine gh_iconst gd_Model_rowMakes_91 (gh_r0 rfl) ?_
        refine gh_iand gd_Model_rowMakes_92 ?_
        refine gh_iconst gd_Model_rowMakes_93 (gh_r0 rfl) ?_
        refine gh_jne (tgt := 101) gd_Model_rowMakes_94 (by decide) (fun c3540 => ?_) (fun c3540 => ?_)
        · have hz : True := trivial
          refine gh_iconst gd_Model_rowMakes_97 (gh_r0 rfl) ?_
          refine gh_goto (tgt := 126) gd_Model_rowMakes_98 (by decide) ?_
          exact k3532 _ (by rw [if_neg c3538, if_pos c3539, if_pos c3540])
        · have hz : True := trivial
          refine gh_iconst gd_Model_rowMakes_101 (gh_r0 rfl) ?_
          refine gh_goto (tgt := 126) gd_Model_rowMakes_102 (by decide) ?_
          exact k3532 _ (by rw [if_neg c3538, if_pos c3539, if_neg c3540])
      · have hz : True := trivial
        refine gh_iconst gd_Model_rowMakes_101 (gh_r0 rfl) ?_
        refine gh_goto (tgt := 126) gd_Model_rowMakes_102 (by decide) ?_
        exact k3532 _ (by rw [if_neg c3538, if_neg c3539])
  have k3521 : ¬ ((v9 ≤ v3) ∧ ((gh_iand_f (gh_ishr_f v4 v8) 1) = 1)) → gh_T E (gh_yModel_rowMakes.cls, prog_14_method_65_code, 11, false, 8) (d + 0) 152 [(0, 2, 63), (1, 0, v1), (2, 0, v2), (3, 0, v3), (4, 0, v4), (5, 0, v5), (6, 0, v6), (7, 0, v7), (8, 0, v8), (9, 0, v9)] [] m (fun r m1 => m1 = m ∧ Q r) := by
    intro c
    have h := hB c
    refine gh_pick (L2 := [(0, 2, 63), (1, 0, v1), (2, 0, v2), (3, 0, v3), (4, 0, v4), (5, 0, v5), (6, 0, v6), (7, 0, v7), (8, 0, v8)]) [0, 1, 2, 3, 4, 5, 6, 7, 8] rfl ?_
    exact hJ152 v7 hF h
  refine gh_jgt (tgt := 152) gd_Model_rowMakes_53 (by decide) (fun c3541 => ?_) (fun c3541 => ?_)
  · have hz : True := trivial
    refine gh_iload gd_Model_rowMakes_56 4 rfl ?_
    refine gh_iload gd_Model_rowMakes_58 8 rfl ?_
    refine gh_ishr gd_Model_rowMakes_60 ?_
    refine gh_iconst gd_Model_rowMakes_61 (gh_r0 rfl) ?_
    refine gh_iand gd_Model_rowMakes_62 ?_
    refine gh_iconst gd_Model_rowMakes_63 (gh_r0 rfl) ?_
    refine gh_jne (tgt := 152) gd_Model_rowMakes_64 (by decide) (fun c3542 => ?_) (fun c3542 => ?_)
    · have hz : True := trivial
      exact k3520 ⟨c3541, c3542⟩
    · have hz : True := trivial
      exact k3521 (fun z => c3542 z.2)
  · have hz : True := trivial
    exact k3521 (fun z => c3541 z.1)
theorem b_Model_rowMakes_38 {E : gh_E} {v1 : Int} {v2 : Int} {v3 : Int} {v4 : Int} {v5 : Int} {v6 : Int} {K8 : Int → Int → Prop} {Q : Int → Prop} {K38 : Int → Int → Prop} (d : Nat) {m : gh_M} (hK8 : ∀ (v4 : Int) (v5 : Int), gh_F m → K8 v4 v5 → gh_T E (gh_yModel_rowMakes.cls, prog_14_method_65_code, 11, false, 8) (d + 0) 8 [(0, 2, 63), (1, 0, v1), (2, 0, v2), (3, 0, v3), (4, 0, v4), (5, 0, v5)] [] m (fun r m1 => m1 = m ∧ Q r)) (hK : ∀ (v7 : Int) (v8 : Int), gh_F m → K38 v7 v8 → gh_T E (gh_yModel_rowMakes.cls, prog_14_method_65_code, 11, false, 8) (d + 0) 38 [(0, 2, 63), (1, 0, v1), (2, 0, v2), (3, 0, v3), (4, 0, v4), (5, 0, v5), (6, 0, v6), (7, 0, v7), (8, 0, v8)] [] m (fun r m1 => m1 = m ∧ Q r)) (v7 : Int) (v8 : Int) (hF : gh_F m) (h : f_Model_rowMakes_38 v1 v2 v3 v4 v5 v6 K8 m K38 v7 v8) : gh_T E (gh_yModel_rowMakes.cls, prog_14_method_65_code, 11, false, 8) (d + 0) 38 [(0, 2, 63), (1, 0, v1), (2, 0, v2), (3, 0, v3), (4, 0, v4), (5, 0, v5), (6, 0, v6), (7, 0, v7), (8, 0, v8)] [] m (fun r m1 => m1 = m ∧ Q r) := by
  have hK38 := hK
  unfold f_Model_rowMakes_38 at h
  refine gh_iload gd_Model_rowMakes_38 8 rfl ?_
  refine gh_iload_n gd_Model_rowMakes_40 3 rfl ?_
  obtain ⟨hA, hB⟩ := h
  refine gh_jge (tgt := 158) gd_Model_rowMakes_41 (by decide) (fun c3517 => ?_) (fun c3517 => ?_)
  · have h := hA c3517
    refine gh_iload gd_Model_rowMakes_44 8 rfl ?_
    refine gh_iconst gd_Model_rowMakes_46 (gh_r0 rfl) ?_
    obtain ⟨q3518, h⟩ := h
    refine gh_iadd gd_Model_rowMakes_47 q3518 ?_
    refine gh_name (fun v9 hn => ?_)
    have h := h v9 hn
    refine gh_istore (L2 := [(9, 0, v9), (0, 2, 63), (1, 0, v1), (2, 0, v2), (3, 0, v3), (4, 0, v4), (5, 0, v5), (6, 0, v6), (7, 0, v7), (8, 0, v8)]) gd_Model_rowMakes_48 (by decide) rfl ?_
    refine gh_pick (L2 := [(0, 2, 63), (1, 0, v1), (2, 0, v2), (3, 0, v3), (4, 0, v4), (5, 0, v5), (6, 0, v6), (7, 0, v7), (8, 0, v8), (9, 0, v9)]) [1, 2, 3, 4, 5, 6, 7, 8, 9, 0] rfl ?_
    exact gh_L2_sound (T := fun v7 v9 => gh_T E (gh_yModel_rowMakes.cls, prog_14_method_65_code, 11, false, 8) (d + 0) 50 [(0, 2, 63), (1, 0, v1), (2, 0, v2), (3, 0, v3), (4, 0, v4), (5, 0, v5), (6, 0, v6), (7, 0, v7), (8, 0, v8), (9, 0, v9)] [] m (fun r m1 => m1 = m ∧ Q r)) (fun _ _ => gh_F m) (fun K50 v7 v9 hK hF h => b_Model_rowMakes_50 d hK38 hK v7 v9 hF h) v7 v9 hF h
  · have h := hB c3517
    refine gh_iload gd_Model_rowMakes_158 7 rfl ?_
    refine gh_istore (L2 := [(4, 0, v7), (0, 2, 63), (1, 0, v1), (2, 0, v2), (3, 0, v3), (5, 0, v5), (6, 0, v6), (7, 0, v7), (8, 0, v8)]) gd_Model_rowMakes_160 (by decide) rfl ?_
    obtain ⟨q3543, h⟩ := h
    refine gh_iinc (L2 := [(5, 0, v5 + 1), (4, 0, v7), (0, 2, 63), (1, 0, v1), (2, 0, v2), (3, 0, v3), (6, 0, v6), (7, 0, v7), (8, 0, v8)]) gd_Model_rowMakes_162 5 rfl q3543 (by decide) rfl ?_
    refine gh_goto (tgt := 8) gd_Model_rowMakes_165 (by decide) ?_
    refine gh_pick (L2 := [(0, 2, 63), (1, 0, v1), (2, 0, v2), (3, 0, v3), (4, 0, v7), (5, 0, v5 + 1)]) [2, 3, 4, 5, 1, 0] rfl ?_
    exact hK8 v7 (v5 + 1) hF h
theorem b_Model_rowMakes_8 {E : gh_E} {v1 : Int} {v2 : Int} {v3 : Int} {Q : Int → Prop} {K8 : Int → Int → Prop} (d : Nat) {m : gh_M} (hK : ∀ (v4 : Int) (v5 : Int), gh_F m → K8 v4 v5 → gh_T E (gh_yModel_rowMakes.cls, prog_14_method_65_code, 11, false, 8) (d + 0) 8 [(0, 2, 63), (1, 0, v1), (2, 0, v2), (3, 0, v3), (4, 0, v4), (5, 0, v5)] [] m (fun r m1 => m1 = m ∧ Q r)) (v4 : Int) (v5 : Int) (hF : gh_F m) (h : f_Model_rowMakes_8 v1 v2 v3 Q m K8 v4 v5) : gh_T E (gh_yModel_rowMakes.cls, prog_14_method_65_code, 11, false, 8) (d + 0) 8 [(0, 2, 63), (1, 0, v1), (2, 0, v2), (3, 0, v3), (4, 0, v4), (5, 0, v5)] [] m (fun r m1 => m1 = m ∧ Q r) := by
  have hK8 := hK
  unfold f_Model_rowMakes_8 at h
  refine gh_iload gd_Model_rowMakes_8 5 rfl ?_
  refine gh_aload_n gd_Model_rowMakes_10 0 rfl (by decide) ?_
  refine gf_63_43 gd_Model_rowMakes_11 gh_k1413 hF ?_
  refine gh_iload_n gd_Model_rowMakes_14 1 rfl ?_
  obtain ⟨q3510, h⟩ := h
  obtain ⟨q3511, h⟩ := h
  refine la_89 gd_Model_rowMakes_15 hF q3510 q3511 rfl ?_
  obtain ⟨hA, hB⟩ := h
  refine gh_jge (tgt := 168) gd_Model_rowMakes_16 (by decide) (fun c3512 => ?_) (fun c3512 => ?_)
  · have h := hA c3512
    refine gh_aload_n gd_Model_rowMakes_19 0 rfl (by decide) ?_
    refine gf_63_44 gd_Model_rowMakes_20 gh_k1414 hF ?_
    refine gh_iconst gd_Model_rowMakes_23 (gh_r0 rfl) ?_
    refine gh_iload_n gd_Model_rowMakes_24 1 rfl ?_
    obtain ⟨q3513, h⟩ := h
    refine gh_imul gd_Model_rowMakes_25 q3513 ?_
    refine gh_iload gd_Model_rowMakes_26 5 rfl ?_
    obtain ⟨q3514, h⟩ := h
    refine gh_iadd gd_Model_rowMakes_28 q3514 ?_
    obtain ⟨q3515, h⟩ := h
    obtain ⟨q3516, h⟩ := h
    refine la_90 gd_Model_rowMakes_29 hF q3515 q3516 rfl ?_
    refine gh_name (fun v6 hn => ?_)
    have h := h v6 hn
    refine gh_istore (L2 := [(6, 0, v6), (0, 2, 63), (1, 0, v1), (2, 0, v2), (3, 0, v3), (4, 0, v4), (5, 0, v5)]) gd_Model_rowMakes_30 (by decide) rfl ?_
    refine gh_iconst gd_Model_rowMakes_32 (gh_r0 rfl) ?_
    refine gh_istore (L2 := [(7, 0, 0), (6, 0, v6), (0, 2, 63), (1, 0, v1), (2, 0, v2), (3, 0, v3), (4, 0, v4), (5, 0, v5)]) gd_Model_rowMakes_33 (by decide) rfl ?_
    refine gh_iload_n gd_Model_rowMakes_35 4 rfl ?_
    refine gh_istore (L2 := [(8, 0, v2), (7, 0, 0), (6, 0, v6), (0, 2, 63), (1, 0, v1), (2, 0, v2), (3, 0, v3), (4, 0, v4), (5, 0, v5)]) gd_Model_rowMakes_36 (by decide) rfl ?_
    refine gh_pick (L2 := [(0, 2, 63), (1, 0, v1), (2, 0, v2), (3, 0, v3), (4, 0, v4), (5, 0, v5), (6, 0, v6), (7, 0, 0), (8, 0, v2)]) [3, 4, 5, 6, 7, 8, 2, 1, 0] rfl ?_
    exact gh_L2_sound (T := fun v7 v8 => gh_T E (gh_yModel_rowMakes.cls, prog_14_method_65_code, 11, false, 8) (d + 0) 38 [(0, 2, 63), (1, 0, v1), (2, 0, v2), (3, 0, v3), (4, 0, v4), (5, 0, v5), (6, 0, v6), (7, 0, v7), (8, 0, v8)] [] m (fun r m1 => m1 = m ∧ Q r)) (fun _ _ => gh_F m) (fun K38 v7 v8 hK hF h => b_Model_rowMakes_38 d hK8 hK v7 v8 hF h) 0 v2 hF h
  · have h := hB c3512
    refine gh_iload gd_Model_rowMakes_168 4 rfl ?_
    refine gh_iload_n gd_Model_rowMakes_170 3 rfl ?_
    refine gh_ishr gd_Model_rowMakes_171 ?_
    refine gh_iconst gd_Model_rowMakes_172 (gh_r0 rfl) ?_
    refine gh_iand gd_Model_rowMakes_173 ?_
    refine gh_iconst gd_Model_rowMakes_174 (gh_r0 rfl) ?_
    have k3544 : ∀ x3545 : Int, x3545 = (if ((gh_iand_f (gh_ishr_f v4 v3) 1) = 1) then (1:Int) else 0) → gh_T E (gh_yModel_rowMakes.cls, prog_14_method_65_code, 11, false, 8) (d + 0) 183 [(0, 2, 63), (1, 0, v1), (2, 0, v2), (3, 0, v3), (4, 0, v4), (5, 0, v5)] [(0, x3545)] m (fun r m1 => m1 = m ∧ Q r) := by
      rintro _ rfl
      exact gh_ret8 rfl gd_Model_rowMakes_183 gh_ib01 ⟨rfl, h⟩
    refine gh_jne (tgt := 182) gd_Model_rowMakes_175 (by decide) (fun c3546 => ?_) (fun c3546 => ?_)
    · have hz : True := trivial
      refine gh_iconst gd_Model_rowMakes_178 (gh_r0 rfl) ?_
      refine gh_goto (tgt := 183) gd_Model_rowMakes_179 (by decide) ?_
      exact k3544 _ (if_pos (c := ((gh_iand_f (gh_ishr_f v4 v3) 1) = 1)) c3546).symm
    · have hz : True := trivial
      refine gh_iconst gd_Model_rowMakes_182 (gh_r0 rfl) ?_
      exact k3544 _ (if_neg (c := ((gh_iand_f (gh_ishr_f v4 v3) 1) = 1)) c3546).symm
theorem s_Model_rowMakes {E : gh_E} {m : gh_M} {Q : Int → Prop} (d : Nat) (v1 : Int) (v2 : Int) (v3 : Int) (hF : gh_F m) (h : w_Model_rowMakes v1 v2 v3 m Q) : gh_C E gh_yModel_rowMakes prog_14_method_65_code 11 (some .boolean) 8 (d + 0) [(2, 63), (0, v1), (0, v2), (0, v3)] m (fun r m1 => m1 = m ∧ Q r) := by
  refine gh_enter2 (L := [(0, 2, 63), (1, 0, v1), (2, 0, v2), (3, 0, v3)]) (by decide +kernel) gh_rt8 (Nat.le_of_ble_eq_true rfl) rfl rfl ?_
  unfold w_Model_rowMakes at h
  refine gh_iconst gd_Model_rowMakes_0 (gh_r0 rfl) ?_
  refine gh_iload_n gd_Model_rowMakes_1 2 rfl ?_
  refine gh_ishl gd_Model_rowMakes_2 ?_
  refine gh_name (fun v4 hn => ?_)
  have h := h v4 hn
  refine gh_istore (L2 := [(4, 0, v4), (0, 2, 63), (1, 0, v1), (2, 0, v2), (3, 0, v3)]) gd_Model_rowMakes_3 (by decide) rfl ?_
  refine gh_iconst gd_Model_rowMakes_5 (gh_r0 rfl) ?_
  refine gh_istore (L2 := [(5, 0, 0), (4, 0, v4), (0, 2, 63), (1, 0, v1), (2, 0, v2), (3, 0, v3)]) gd_Model_rowMakes_6 (by decide) rfl ?_
  refine gh_pick (L2 := [(0, 2, 63), (1, 0, v1), (2, 0, v2), (3, 0, v3), (4, 0, v4), (5, 0, 0)]) [2, 3, 4, 5, 1, 0] rfl ?_
  exact gh_L2_sound (T := fun v4 v5 => gh_T E (gh_yModel_rowMakes.cls, prog_14_method_65_code, 11, false, 8) (d + 0) 8 [(0, 2, 63), (1, 0, v1), (2, 0, v2), (3, 0, v3), (4, 0, v4), (5, 0, v5)] [] m (fun r m1 => m1 = m ∧ Q r)) (fun _ _ => gh_F m) (fun K8 v4 v5 hK hF h => b_Model_rowMakes_8 d hK v4 v5 hF h) v4 0 hF h
def f_Model_properly_79 (v1 : Int) (v2 : Int) (v3 : Int) (v4 : Int) (K64 : Int → gh_M → Prop) (m : gh_M) (K79 : Int → Int → Prop) (v5 : Int) (v6 : Int) : Prop := ∃ J136 : Int → Prop, (∀ (v5' : Int), J136 v5' → gh_i (81 * v4) ∧ gh_i (9 * v3) ∧ gh_i ((81 * v4) + (9 * v3)) ∧ gh_i (((81 * v4) + (9 * v3)) + v3) ∧ gh_i ((((81 * v4) + (9 * v3)) + v3) + v2) ∧ 0 ≤ (((81 * v4) + (9 * v3)) + v3) + v2 ∧ ((((81 * v4) + (9 * v3)) + v3) + v2) < 648 ∧ (v5' = 0 ∨ v5' = 1) ∧ gh_i (v4 + 1) ∧ K64 (v4 + 1) (gh_u m 104 ((((81 * v4) + (9 * v3)) + v3) + v2) v5')) ∧ ((((v6 < (m 63 42)) ∧ (v5 = 0)) → gh_i (320 * v4) ∧ gh_i ((320 * v4) + v6) ∧ 0 ≤ (320 * v4) + v6 ∧ ((320 * v4) + v6) < 2560 ∧ ∃ J128 : Int → Prop, (∀ (y0 : Int), J128 y0 → gh_i (v6 + 1) ∧ K79 y0 (v6 + 1)) ∧ ∃ J127 : Prop, (J127 → J128 0) ∧ (((m 92 ((320 * v4) + v6)) = 0 → J127) ∧ (¬ ((m 92 ((320 * v4) + v6)) = 0) → gh_i (v3 + v2) ∧ w_Model_rowMakes v6 v3 (v3 + v2) m (fun r3575 => ((r3575 = 0 → J127) ∧ (¬ (r3575 = 0) → J128 1)))))) ∧ (¬ ((v6 < (m 63 42)) ∧ (v5 = 0)) → J136 v5))
def f_Model_properly_64 (v1 : Int) (v2 : Int) (v3 : Int) (K54 : Int → gh_M → Prop) (K64 : Int → gh_M → Prop) (v4 : Int) (m : gh_M) : Prop := ((v4 < (m 63 26) → gh_L2 (fun K79 v5 v6 => f_Model_properly_79 v1 v2 v3 v4 K64 m K79 v5 v6) 0 0) ∧ (¬ (v4 < (m 63 26)) → gh_i (v3 + 1) ∧ K54 (v3 + 1) m))
def f_Model_properly_54 (v1 : Int) (v2 : Int) (K47 : Int → gh_M → Prop) (K54 : Int → gh_M → Prop) (v3 : Int) (m : gh_M) : Prop := gh_i (v3 + v2) ∧ (((v3 + v2) ≤ v1 → gh_M1 (fun K64 v4 m => f_Model_properly_64 v1 v2 v3 K54 K64 v4 m) 0 m) ∧ (¬ ((v3 + v2) ≤ v1) → gh_i (v2 + 1) ∧ K47 (v2 + 1) m))
def f_Model_properly_47 (v1 : Int) (Q : Int → gh_M → Prop) (K47 : Int → gh_M → Prop) (v2 : Int) (m : gh_M) : Prop := ((v2 ≤ v1 → gh_M1 (fun K54 v3 m => f_Model_properly_54 v1 v2 K47 K54 v3 m) 0 m) ∧ (¬ (v2 ≤ v1) → 0 ≤ v1 ∧ v1 < 648 ∧ Q (if p_Model_bit (m 104 v1) then (1:Int) else 0) m))
def f_Model_properly_25 (v1 : Int) (Q : Int → gh_M → Prop) (K25 : Int → gh_M → Prop) (v2 : Int) (m : gh_M) : Prop := ((v2 < 648 → 0 ≤ v2 ∧ v2 < 648 ∧ gh_i (v2 + 1) ∧ K25 (v2 + 1) (gh_u m 104 v2 0)) ∧ (¬ (v2 < 648) → gh_M1 (fun K47 v2 m => f_Model_properly_47 v1 Q K47 v2 m) 1 m))
def w_Model_properly (v1 : Int) (m : gh_M) (Q : Int → gh_M → Prop) : Prop := (((m 63 24) = 0 → Q (-1003) m) ∧ (¬ ((m 63 24) = 0) → ((p_Model_isPlace v1 m → gh_M1 (fun K25 v2 m => f_Model_properly_25 v1 Q K25 v2 m) 0 m) ∧ (¬ (p_Model_isPlace v1 m) → Q (-1001) m))))
theorem b_Model_properly_79 {E : gh_E} {v1 : Int} {v2 : Int} {v3 : Int} {v4 : Int} {K64 : Int → gh_M → Prop} {Q : Int → gh_M → Prop} {K79 : Int → Int → Prop} (d : Nat) {m : gh_M} (hK64 : ∀ (v4 : Int) (m : gh_M), gh_F m → K64 v4 m → gh_T E (gh_yModel_properly.cls, prog_14_method_66_code, 7, false, 0) (d + 2) 64 [(0, 2, 63), (1, 0, v1), (2, 0, v2), (3, 0, v3), (4, 0, v4)] [] m (fun r m1 => gh_F m1 ∧ Q r m1)) (hK : ∀ (v5 : Int) (v6 : Int), gh_F m → K79 v5 v6 → gh_T E (gh_yModel_properly.cls, prog_14_method_66_code, 7, false, 0) (d + 2) 79 [(0, 2, 63), (1, 0, v1), (2, 0, v2), (3, 0, v3), (4, 0, v4), (5, 0, v5), (6, 0, v6)] [] m (fun r m1 => gh_F m1 ∧ Q r m1)) (v5 : Int) (v6 : Int) (hF : gh_F m) (h : f_Model_properly_79 v1 v2 v3 v4 K64 m K79 v5 v6) : gh_T E (gh_yModel_properly.cls, prog_14_method_66_code, 7, false, 0) (d + 2) 79 [(0, 2, 63), (1, 0, v1), (2, 0, v2), (3, 0, v3), (4, 0, v4), (5, 0, v5), (6, 0, v6)] [] m (fun r m1 => gh_F m1 ∧ Q r m1) := by
  have hK79 := hK
  unfold f_Model_properly_79 at h
  refine gh_iload gd_Model_properly_79 6 rfl ?_
  refine gh_aload_n gd_Model_properly_81 0 rfl (by decide) ?_
  refine gf_63_42 gd_Model_properly_82 gh_k1412 hF rfl ?_
  obtain ⟨J136, hJ136, h⟩ := h
  have hJ136 : ∀ (v5' : Int), gh_F m → J136 v5' → gh_T E (gh_yModel_properly.cls, prog_14_method_66_code, 7, false, 0) (d + 2) 136 [(0, 2, 63), (1, 0, v1), (2, 0, v2), (3, 0, v3), (4, 0, v4), (5, 0, v5')] [] m (fun r m1 => gh_F m1 ∧ Q r m1) := by
    intro v5' hF hj
    have h := hJ136 v5' hj
    refine gh_aload_n gd_Model_properly_136 0 rfl (by decide) ?_
    refine gf_63_60 gd_Model_properly_137 gh_k1430 hF ?_
    refine gh_bipush gd_Model_properly_140 (by decide) (gh_r0 rfl) ?_
    refine gh_iload gd_Model_properly_142 4 rfl ?_
    obtain ⟨q3557, h⟩ := h
    refine gh_imul gd_Model_properly_144 q3557 ?_
    refine gh_bipush gd_Model_properly_145 (by decide) (gh_r0 rfl) ?_
    refine gh_iload_n gd_Model_properly_147 3 rfl ?_
    obtain ⟨q3558, h⟩ := h
    refine gh_imul gd_Model_properly_148 q3558 ?_
    obtain ⟨q3559, h⟩ := h
    refine gh_iadd gd_Model_properly_149 q3559 ?_
    refine gh_iload_n gd_Model_properly_150 3 rfl ?_
    obtain ⟨q3560, h⟩ := h
    refine gh_iadd gd_Model_properly_151 q3560 ?_
    refine gh_iload_n gd_Model_properly_152 2 rfl ?_
    obtain ⟨q3561, h⟩ := h
    refine gh_iadd gd_Model_properly_153 q3561 ?_
    refine gh_iload gd_Model_properly_154 5 rfl ?_
    obtain ⟨q3562, h⟩ := h
    obtain ⟨q3563, h⟩ := h
    obtain ⟨q3564, h⟩ := h
    refine sa_104 gd_Model_properly_156 hF q3562 q3563 q3564 (fun hF => ?_)
    obtain ⟨q3565, h⟩ := h
    refine gh_iinc (L2 := [(4, 0, v4 + 1), (0, 2, 63), (1, 0, v1), (2, 0, v2), (3, 0, v3), (5, 0, v5')]) gd_Model_properly_157 4 rfl q3565 (by decide) rfl ?_
    refine gh_goto (tgt := 64) gd_Model_properly_160 (by decide) ?_
    refine gh_pick (L2 := [(0, 2, 63), (1, 0, v1), (2, 0, v2), (3, 0, v3), (4, 0, v4 + 1)]) [1, 2, 3, 4, 0] rfl ?_
    exact hK64 (v4 + 1) (gh_u m 104 ((((81 * v4) + (9 * v3)) + v3) + v2) v5') hF h
  obtain ⟨hA, hB⟩ := h
  have k3566 : ((v6 < (m 63 42)) ∧ (v5 = 0)) → gh_T E (gh_yModel_properly.cls, prog_14_method_66_code, 7, false, 0) (d + 2) 93 [(0, 2, 63), (1, 0, v1), (2, 0, v2), (3, 0, v3), (4, 0, v4), (5, 0, v5), (6, 0, v6)] [] m (fun r m1 => gh_F m1 ∧ Q r m1) := by
    intro c
    have h := hA c
    refine gh_aload_n gd_Model_properly_93 0 rfl (by decide) ?_
    refine gf_63_46 gd_Model_properly_94 gh_k1416 hF ?_
    refine gh_sipush gd_Model_properly_97 (by decide) (gh_r0 rfl) ?_
    refine gh_iload gd_Model_properly_100 4 rfl ?_
    obtain ⟨q3568, h⟩ := h
    refine gh_imul gd_Model_properly_102 q3568 ?_
    refine gh_iload gd_Model_properly_103 6 rfl ?_
    obtain ⟨q3569, h⟩ := h
    refine gh_iadd gd_Model_properly_105 q3569 ?_
    obtain ⟨q3570, h⟩ := h
    obtain ⟨q3571, h⟩ := h
    refine la_92 gd_Model_properly_106 hF q3570 q3571 rfl ?_
    obtain ⟨J128, hJ128, h⟩ := h
    have hJ128 : ∀ (y0 : Int), gh_F m → J128 y0 → gh_T E (gh_yModel_properly.cls, prog_14_method_66_code, 7, false, 0) (d + 2) 128 [(0, 2, 63), (1, 0, v1), (2, 0, v2), (3, 0, v3), (4, 0, v4), (6, 0, v6)] [(0, y0)] m (fun r m1 => gh_F m1 ∧ Q r m1) := by
      intro y0 hF hj
      have h := hJ128 y0 hj
      refine gh_istore (L2 := [(5, 0, y0), (0, 2, 63), (1, 0, v1), (2, 0, v2), (3, 0, v3), (4, 0, v4), (6, 0, v6)]) gd_Model_properly_128 (by decide) rfl ?_
      obtain ⟨q3572, h⟩ := h
      refine gh_iinc (L2 := [(6, 0, v6 + 1), (5, 0, y0), (0, 2, 63), (1, 0, v1), (2, 0, v2), (3, 0, v3), (4, 0, v4)]) gd_Model_properly_130 6 rfl q3572 (by decide) rfl ?_
      refine gh_goto (tgt := 79) gd_Model_properly_133 (by decide) ?_
      refine gh_pick (L2 := [(0, 2, 63), (1, 0, v1), (2, 0, v2), (3, 0, v3), (4, 0, v4), (5, 0, y0), (6, 0, v6 + 1)]) [2, 3, 4, 5, 6, 1, 0] rfl ?_
      exact hK79 y0 (v6 + 1) hF h
    obtain ⟨J127, hJ127, h⟩ := h
    have hJ127 : gh_F m → J127 → gh_T E (gh_yModel_properly.cls, prog_14_method_66_code, 7, false, 0) (d + 2) 127 [(0, 2, 63), (1, 0, v1), (2, 0, v2), (3, 0, v3), (4, 0, v4), (6, 0, v6)] [] m (fun r m1 => gh_F m1 ∧ Q r m1) := by
      intro hF hj
      have h := hJ127 hj
      refine gh_iconst gd_Model_properly_127 (gh_r0 rfl) ?_
      exact hJ128 0 hF h
    obtain ⟨hA, hB⟩ := h
    refine gh_zeq (tgt := 127) gd_Model_properly_107 (by decide) (fun c3573 => ?_) (fun c3573 => ?_)
    · have h := hA c3573
      refine gh_pick (L2 := [(0, 2, 63), (1, 0, v1), (2, 0, v2), (3, 0, v3), (4, 0, v4), (6, 0, v6)]) [0, 1, 2, 3, 4, 6] rfl ?_
      exact hJ127 hF h
    · have h := hB c3573
      refine gh_aload_n gd_Model_properly_110 0 rfl (by decide) ?_
      refine gh_iload gd_Model_properly_111 6 rfl ?_
      refine gh_iload_n gd_Model_properly_113 3 rfl ?_
      refine gh_iload_n gd_Model_properly_114 3 rfl ?_
      refine gh_iload_n gd_Model_properly_115 2 rfl ?_
      obtain ⟨q3574, h⟩ := h
      refine gh_iadd gd_Model_properly_116 q3574 ?_
      refine cv_Model_rowMakes (d := d + 1) gd_Model_properly_117 gh_k1879 hF (Nat.le_of_ble_eq_true rfl) (gh_C.pw (s_Model_rowMakes (d + 1) v6 v3 (v3 + v2) hF h) (fun r3575 h => ?_))
      obtain ⟨hA, hB⟩ := h
      refine gh_zeq (tgt := 127) gd_Model_properly_120 (by decide) (fun c3577 => ?_) (fun c3577 => ?_)
      · have h := hA c3577
        refine gh_pick (L2 := [(0, 2, 63), (1, 0, v1), (2, 0, v2), (3, 0, v3), (4, 0, v4), (6, 0, v6)]) [0, 1, 2, 3, 4, 6] rfl ?_
        exact hJ127 hF h
      · have h := hB c3577
        refine gh_iconst gd_Model_properly_123 (gh_r0 rfl) ?_
        refine gh_goto (tgt := 128) gd_Model_properly_124 (by decide) ?_
        refine gh_pick (L2 := [(0, 2, 63), (1, 0, v1), (2, 0, v2), (3, 0, v3), (4, 0, v4), (6, 0, v6)]) [0, 1, 2, 3, 4, 6] rfl ?_
        exact hJ128 1 hF h
  have k3567 : ¬ ((v6 < (m 63 42)) ∧ (v5 = 0)) → gh_T E (gh_yModel_properly.cls, prog_14_method_66_code, 7, false, 0) (d + 2) 136 [(0, 2, 63), (1, 0, v1), (2, 0, v2), (3, 0, v3), (4, 0, v4), (5, 0, v5), (6, 0, v6)] [] m (fun r m1 => gh_F m1 ∧ Q r m1) := by
    intro c
    have h := hB c
    refine gh_pick (L2 := [(0, 2, 63), (1, 0, v1), (2, 0, v2), (3, 0, v3), (4, 0, v4), (5, 0, v5)]) [0, 1, 2, 3, 4, 5] rfl ?_
    exact hJ136 v5 hF h
  refine gh_jge (tgt := 136) gd_Model_properly_85 (by decide) (fun c3578 => ?_) (fun c3578 => ?_)
  · have hz : True := trivial
    refine gh_iload gd_Model_properly_88 5 rfl ?_
    refine gh_zne (tgt := 136) gd_Model_properly_90 (by decide) (fun c3579 => ?_) (fun c3579 => ?_)
    · have hz : True := trivial
      exact k3566 ⟨c3578, c3579⟩
    · have hz : True := trivial
      exact k3567 (fun z => c3579 z.2)
  · have hz : True := trivial
    exact k3567 (fun z => c3578 z.1)
theorem b_Model_properly_64 {E : gh_E} {v1 : Int} {v2 : Int} {v3 : Int} {K54 : Int → gh_M → Prop} {Q : Int → gh_M → Prop} {K64 : Int → gh_M → Prop} (d : Nat) (hK54 : ∀ (v3 : Int) (m : gh_M), gh_F m → K54 v3 m → gh_T E (gh_yModel_properly.cls, prog_14_method_66_code, 7, false, 0) (d + 2) 54 [(0, 2, 63), (1, 0, v1), (2, 0, v2), (3, 0, v3)] [] m (fun r m1 => gh_F m1 ∧ Q r m1)) (hK : ∀ (v4 : Int) (m : gh_M), gh_F m → K64 v4 m → gh_T E (gh_yModel_properly.cls, prog_14_method_66_code, 7, false, 0) (d + 2) 64 [(0, 2, 63), (1, 0, v1), (2, 0, v2), (3, 0, v3), (4, 0, v4)] [] m (fun r m1 => gh_F m1 ∧ Q r m1)) (v4 : Int) (m : gh_M) (hF : gh_F m) (h : f_Model_properly_64 v1 v2 v3 K54 K64 v4 m) : gh_T E (gh_yModel_properly.cls, prog_14_method_66_code, 7, false, 0) (d + 2) 64 [(0, 2, 63), (1, 0, v1), (2, 0, v2), (3, 0, v3), (4, 0, v4)] [] m (fun r m1 => gh_F m1 ∧ Q r m1) := by
  have hK64 := hK
  unfold f_Model_properly_64 at h
  refine gh_iload gd_Model_properly_64 4 rfl ?_
  refine gh_aload_n gd_Model_properly_66 0 rfl (by decide) ?_
  refine gf_63_26 gd_Model_properly_67 gh_k1396 hF rfl ?_
  obtain ⟨hA, hB⟩ := h
  refine gh_jge (tgt := 163) gd_Model_properly_70 (by decide) (fun c3556 => ?_) (fun c3556 => ?_)
  · have h := hA c3556
    refine gh_iconst gd_Model_properly_73 (gh_r0 rfl) ?_
    refine gh_istore (L2 := [(5, 0, 0), (0, 2, 63), (1, 0, v1), (2, 0, v2), (3, 0, v3), (4, 0, v4)]) gd_Model_properly_74 (by decide) rfl ?_
    refine gh_iconst gd_Model_properly_76 (gh_r0 rfl) ?_
    refine gh_istore (L2 := [(6, 0, 0), (5, 0, 0), (0, 2, 63), (1, 0, v1), (2, 0, v2), (3, 0, v3), (4, 0, v4)]) gd_Model_properly_77 (by decide) rfl ?_
    refine gh_pick (L2 := [(0, 2, 63), (1, 0, v1), (2, 0, v2), (3, 0, v3), (4, 0, v4), (5, 0, 0), (6, 0, 0)]) [2, 3, 4, 5, 6, 1, 0] rfl ?_
    exact gh_L2_sound (T := fun v5 v6 => gh_T E (gh_yModel_properly.cls, prog_14_method_66_code, 7, false, 0) (d + 2) 79 [(0, 2, 63), (1, 0, v1), (2, 0, v2), (3, 0, v3), (4, 0, v4), (5, 0, v5), (6, 0, v6)] [] m (fun r m1 => gh_F m1 ∧ Q r m1)) (fun _ _ => gh_F m) (fun K79 v5 v6 hK hF h => b_Model_properly_79 d hK64 hK v5 v6 hF h) 0 0 hF h
  · have h := hB c3556
    obtain ⟨q3580, h⟩ := h
    refine gh_iinc (L2 := [(3, 0, v3 + 1), (0, 2, 63), (1, 0, v1), (2, 0, v2), (4, 0, v4)]) gd_Model_properly_163 3 rfl q3580 (by decide) rfl ?_
    refine gh_goto (tgt := 54) gd_Model_properly_166 (by decide) ?_
    refine gh_pick (L2 := [(0, 2, 63), (1, 0, v1), (2, 0, v2), (3, 0, v3 + 1)]) [1, 2, 3, 0] rfl ?_
    exact hK54 (v3 + 1) m hF h
theorem b_Model_properly_54 {E : gh_E} {v1 : Int} {v2 : Int} {K47 : Int → gh_M → Prop} {Q : Int → gh_M → Prop} {K54 : Int → gh_M → Prop} (d : Nat) (hK47 : ∀ (v2 : Int) (m : gh_M), gh_F m → K47 v2 m → gh_T E (gh_yModel_properly.cls, prog_14_method_66_code, 7, false, 0) (d + 2) 47 [(0, 2, 63), (1, 0, v1), (2, 0, v2)] [] m (fun r m1 => gh_F m1 ∧ Q r m1)) (hK : ∀ (v3 : Int) (m : gh_M), gh_F m → K54 v3 m → gh_T E (gh_yModel_properly.cls, prog_14_method_66_code, 7, false, 0) (d + 2) 54 [(0, 2, 63), (1, 0, v1), (2, 0, v2), (3, 0, v3)] [] m (fun r m1 => gh_F m1 ∧ Q r m1)) (v3 : Int) (m : gh_M) (hF : gh_F m) (h : f_Model_properly_54 v1 v2 K47 K54 v3 m) : gh_T E (gh_yModel_properly.cls, prog_14_method_66_code, 7, false, 0) (d + 2) 54 [(0, 2, 63), (1, 0, v1), (2, 0, v2), (3, 0, v3)] [] m (fun r m1 => gh_F m1 ∧ Q r m1) := by
  have hK54 := hK
  unfold f_Model_properly_54 at h
  refine gh_iload_n gd_Model_properly_54 3 rfl ?_
  refine gh_iload_n gd_Model_properly_55 2 rfl ?_
  obtain ⟨q3554, h⟩ := h
  refine gh_iadd gd_Model_properly_56 q3554 ?_
  refine gh_iload_n gd_Model_properly_57 1 rfl ?_
  obtain ⟨hA, hB⟩ := h
  refine gh_jgt (tgt := 169) gd_Model_properly_58 (by decide) (fun c3555 => ?_) (fun c3555 => ?_)
  · have h := hA c3555
    refine gh_iconst gd_Model_properly_61 (gh_r0 rfl) ?_
    refine gh_istore (L2 := [(4, 0, 0), (0, 2, 63), (1, 0, v1), (2, 0, v2), (3, 0, v3)]) gd_Model_properly_62 (by decide) rfl ?_
    refine gh_pick (L2 := [(0, 2, 63), (1, 0, v1), (2, 0, v2), (3, 0, v3), (4, 0, 0)]) [1, 2, 3, 4, 0] rfl ?_
    exact gh_M1_sound (T := fun v4 m => gh_T E (gh_yModel_properly.cls, prog_14_method_66_code, 7, false, 0) (d + 2) 64 [(0, 2, 63), (1, 0, v1), (2, 0, v2), (3, 0, v3), (4, 0, v4)] [] m (fun r m1 => gh_F m1 ∧ Q r m1)) (fun _ m => gh_F m) (fun K64 v4 m hK hF h => b_Model_properly_64 d hK54 hK v4 m hF h) 0 m hF h
  · have h := hB c3555
    obtain ⟨q3581, h⟩ := h
    refine gh_iinc (L2 := [(2, 0, v2 + 1), (0, 2, 63), (1, 0, v1), (3, 0, v3)]) gd_Model_properly_169 2 rfl q3581 (by decide) rfl ?_
    refine gh_goto (tgt := 47) gd_Model_properly_172 (by decide) ?_
    refine gh_pick (L2 := [(0, 2, 63), (1, 0, v1), (2, 0, v2 + 1)]) [1, 2, 0] rfl ?_
    exact hK47 (v2 + 1) m hF h
theorem b_Model_properly_47 {E : gh_E} {v1 : Int} {Q : Int → gh_M → Prop} {K47 : Int → gh_M → Prop} (d : Nat) (hK : ∀ (v2 : Int) (m : gh_M), gh_F m → K47 v2 m → gh_T E (gh_yModel_properly.cls, prog_14_method_66_code, 7, false, 0) (d + 2) 47 [(0, 2, 63), (1, 0, v1), (2, 0, v2)] [] m (fun r m1 => gh_F m1 ∧ Q r m1)) (v2 : Int) (m : gh_M) (hF : gh_F m) (h : f_Model_properly_47 v1 Q K47 v2 m) : gh_T E (gh_yModel_properly.cls, prog_14_method_66_code, 7, false, 0) (d + 2) 47 [(0, 2, 63), (1, 0, v1), (2, 0, v2)] [] m (fun r m1 => gh_F m1 ∧ Q r m1) := by
  have hK47 := hK
  unfold f_Model_properly_47 at h
  refine gh_iload_n gd_Model_properly_47 2 rfl ?_
  refine gh_iload_n gd_Model_properly_48 1 rfl ?_
  obtain ⟨hA, hB⟩ := h
  refine gh_jgt (tgt := 175) gd_Model_properly_49 (by decide) (fun c3553 => ?_) (fun c3553 => ?_)
  · have h := hA c3553
    refine gh_iconst gd_Model_properly_52 (gh_r0 rfl) ?_
    refine gh_istore_n (L2 := [(3, 0, 0), (0, 2, 63), (1, 0, v1), (2, 0, v2)]) gd_Model_properly_53 (by decide) rfl ?_
    refine gh_pick (L2 := [(0, 2, 63), (1, 0, v1), (2, 0, v2), (3, 0, 0)]) [1, 2, 3, 0] rfl ?_
    exact gh_M1_sound (T := fun v3 m => gh_T E (gh_yModel_properly.cls, prog_14_method_66_code, 7, false, 0) (d + 2) 54 [(0, 2, 63), (1, 0, v1), (2, 0, v2), (3, 0, v3)] [] m (fun r m1 => gh_F m1 ∧ Q r m1)) (fun _ m => gh_F m) (fun K54 v3 m hK hF h => b_Model_properly_54 d hK47 hK v3 m hF h) 0 m hF h
  · have h := hB c3553
    refine gh_aload_n gd_Model_properly_175 0 rfl (by decide) ?_
    refine gf_63_60 gd_Model_properly_176 gh_k1430 hF ?_
    refine gh_iload_n gd_Model_properly_179 1 rfl ?_
    obtain ⟨q3582, h⟩ := h
    obtain ⟨q3583, h⟩ := h
    refine la_104 gd_Model_properly_180 hF q3582 q3583 rfl ?_
    refine cv_Model_bit (d := d + 1) gd_Model_properly_181 gh_k1820 (Nat.le_of_ble_eq_true rfl) (gh_C.pe (e_Model_bit (d + 1) (m 104 v1)) ?_)
    exact gh_ret0 rfl gd_Model_properly_184 ⟨hF, h⟩
theorem b_Model_properly_25 {E : gh_E} {v1 : Int} {Q : Int → gh_M → Prop} {K25 : Int → gh_M → Prop} (d : Nat) (hK : ∀ (v2 : Int) (m : gh_M), gh_F m → K25 v2 m → gh_T E (gh_yModel_properly.cls, prog_14_method_66_code, 7, false, 0) (d + 2) 25 [(0, 2, 63), (1, 0, v1), (2, 0, v2)] [] m (fun r m1 => gh_F m1 ∧ Q r m1)) (v2 : Int) (m : gh_M) (hF : gh_F m) (h : f_Model_properly_25 v1 Q K25 v2 m) : gh_T E (gh_yModel_properly.cls, prog_14_method_66_code, 7, false, 0) (d + 2) 25 [(0, 2, 63), (1, 0, v1), (2, 0, v2)] [] m (fun r m1 => gh_F m1 ∧ Q r m1) := by
  have hK25 := hK
  unfold f_Model_properly_25 at h
  refine gh_iload_n gd_Model_properly_25 2 rfl ?_
  refine gh_sipush gd_Model_properly_26 (by decide) (gh_r0 rfl) ?_
  obtain ⟨hA, hB⟩ := h
  refine gh_jge (tgt := 45) gd_Model_properly_29 (by decide) (fun c3549 => ?_) (fun c3549 => ?_)
  · have h := hA c3549
    refine gh_aload_n gd_Model_properly_32 0 rfl (by decide) ?_
    refine gf_63_60 gd_Model_properly_33 gh_k1430 hF ?_
    refine gh_iload_n gd_Model_properly_36 2 rfl ?_
    refine gh_iconst gd_Model_properly_37 (gh_r0 rfl) ?_
    obtain ⟨q3550, h⟩ := h
    obtain ⟨q3551, h⟩ := h
    refine sa_104 gd_Model_properly_38 hF q3550 q3551 (by decide) (fun hF => ?_)
    obtain ⟨q3552, h⟩ := h
    refine gh_iinc (L2 := [(2, 0, v2 + 1), (0, 2, 63), (1, 0, v1)]) gd_Model_properly_39 2 rfl q3552 (by decide) rfl ?_
    refine gh_goto (tgt := 25) gd_Model_properly_42 (by decide) ?_
    refine gh_pick (L2 := [(0, 2, 63), (1, 0, v1), (2, 0, v2 + 1)]) [1, 2, 0] rfl ?_
    exact hK25 (v2 + 1) (gh_u m 104 v2 0) hF h
  · have h := hB c3549
    refine gh_iconst gd_Model_properly_45 (gh_r0 rfl) ?_
    refine gh_istore_n (L2 := [(2, 0, 1), (0, 2, 63), (1, 0, v1)]) gd_Model_properly_46 (by decide) rfl ?_
    refine gh_pick (L2 := [(0, 2, 63), (1, 0, v1), (2, 0, 1)]) [1, 2, 0] rfl ?_
    exact gh_M1_sound (T := fun v2 m => gh_T E (gh_yModel_properly.cls, prog_14_method_66_code, 7, false, 0) (d + 2) 47 [(0, 2, 63), (1, 0, v1), (2, 0, v2)] [] m (fun r m1 => gh_F m1 ∧ Q r m1)) (fun _ m => gh_F m) (fun K47 v2 m hK hF h => b_Model_properly_47 d hK v2 m hF h) 1 m hF h
theorem s_Model_properly {E : gh_E} {m : gh_M} {Q : Int → gh_M → Prop} (d : Nat) (v1 : Int) (hF : gh_F m) (h : w_Model_properly v1 m Q) : gh_C E gh_yModel_properly prog_14_method_66_code 7 (some .int) 0 (d + 2) [(2, 63), (0, v1)] m (fun r m1 => gh_F m1 ∧ Q r m1) := by
  refine gh_enter2 (L := [(0, 2, 63), (1, 0, v1)]) (by decide +kernel) gh_rt0 (Nat.le_of_ble_eq_true rfl) rfl rfl ?_
  unfold w_Model_properly at h
  refine gh_aload_n gd_Model_properly_0 0 rfl (by decide) ?_
  refine gf_63_24 gd_Model_properly_1 gh_k1394 hF rfl ?_
  obtain ⟨hA, hB⟩ := h
  refine gh_zne (tgt := 11) gd_Model_properly_4 (by decide) (fun c3547 => ?_) (fun c3547 => ?_)
  · have h := hA c3547
    refine gh_sipush gd_Model_properly_7 (by decide) (gh_r0 rfl) ?_
    exact gh_ret0 rfl gd_Model_properly_10 ⟨hF, h⟩
  · have h := hB c3547
    refine gh_aload_n gd_Model_properly_11 0 rfl (by decide) ?_
    refine gh_iload_n gd_Model_properly_12 1 rfl ?_
    refine cv_Model_isPlace (d := d + 1) gd_Model_properly_13 gh_k1875 hF (Nat.le_of_ble_eq_true rfl) (gh_C.pe (e_Model_isPlace d v1 hF) ?_)
    obtain ⟨hA, hB⟩ := h
    refine gh_bne (tgt := 23) gd_Model_properly_16 (by decide) (fun c3548 => ?_) (fun c3548 => ?_)
    · have h := hA c3548
      refine gh_iconst gd_Model_properly_23 (gh_r0 rfl) ?_
      refine gh_istore_n (L2 := [(2, 0, 0), (0, 2, 63), (1, 0, v1)]) gd_Model_properly_24 (by decide) rfl ?_
      refine gh_pick (L2 := [(0, 2, 63), (1, 0, v1), (2, 0, 0)]) [1, 2, 0] rfl ?_
      exact gh_M1_sound (T := fun v2 m => gh_T E (gh_yModel_properly.cls, prog_14_method_66_code, 7, false, 0) (d + 2) 25 [(0, 2, 63), (1, 0, v1), (2, 0, v2)] [] m (fun r m1 => gh_F m1 ∧ Q r m1)) (fun _ m => gh_F m) (fun K25 v2 m hK hF h => b_Model_properly_25 d hK v2 m hF h) 0 m hF h
    · have h := hB c3548
      refine gh_sipush gd_Model_properly_19 (by decide) (gh_r0 rfl) ?_
      exact gh_ret0 rfl gd_Model_properly_22 ⟨hF, h⟩
def w_Model_put (v1 : Int) (m : gh_M) (Q : Int → gh_M → Prop) : Prop := (((¬ (v1 < 0) ∧ (v1 ≤ 25)) → (((m 63 24) = 0 → Q (-1003) m) ∧ (¬ ((m 63 24) = 0) → (((m 63 50) = 8 → Q (-1004) m) ∧ (¬ ((m 63 50) = 8) → 0 ≤ m 63 50 ∧ (m 63 50) < 8 ∧ gh_i ((m 63 50) + 1) ∧ w_Model_changed (gh_u (gh_u m 96 (m 63 50) v1) 63 50 ((m 63 50) + 1)) (fun _ m3591 => Q (m3591 63 50) m3591)))))) ∧ (¬ ((¬ (v1 < 0) ∧ (v1 ≤ 25))) → Q (-1002) m))
theorem s_Model_put {E : gh_E} {m : gh_M} {Q : Int → gh_M → Prop} (d : Nat) (v1 : Int) (hF : gh_F m) (h : w_Model_put v1 m Q) : gh_C E gh_yModel_put prog_14_method_73_code 2 (some .int) 0 (d + 1) [(2, 63), (0, v1)] m (fun r m1 => gh_F m1 ∧ Q r m1) := by
  refine gh_enter2 (L := [(0, 2, 63), (1, 0, v1)]) (by decide +kernel) gh_rt0 (Nat.le_of_ble_eq_true rfl) rfl rfl ?_
  unfold w_Model_put at h
  refine gh_iload_n gd_Model_put_0 1 rfl ?_
  refine gh_iconst gd_Model_put_1 (gh_r0 rfl) ?_
  refine gh_bipush gd_Model_put_2 (by decide) (gh_r0 rfl) ?_
  refine cv_Model_in (d := d) gd_Model_put_4 gh_k1631 (Nat.le_of_ble_eq_true rfl) (gh_C.pe (e_Model_in d v1 0 25) ?_)
  obtain ⟨hA, hB⟩ := h
  refine gh_bne (tgt := 14) gd_Model_put_7 (by decide) (fun c3584 => ?_) (fun c3584 => ?_)
  · have h := hA c3584
    refine gh_aload_n gd_Model_put_14 0 rfl (by decide) ?_
    refine gf_63_24 gd_Model_put_15 gh_k1394 hF rfl ?_
    obtain ⟨hA, hB⟩ := h
    refine gh_zne (tgt := 25) gd_Model_put_18 (by decide) (fun c3585 => ?_) (fun c3585 => ?_)
    · have h := hA c3585
      refine gh_sipush gd_Model_put_21 (by decide) (gh_r0 rfl) ?_
      exact gh_ret0 rfl gd_Model_put_24 ⟨hF, h⟩
    · have h := hB c3585
      refine gh_aload_n gd_Model_put_25 0 rfl (by decide) ?_
      refine gf_63_50 gd_Model_put_26 gh_k1420 hF rfl ?_
      refine gh_bipush gd_Model_put_29 (by decide) (gh_r0 rfl) ?_
      obtain ⟨hA, hB⟩ := h
      refine gh_jne (tgt := 38) gd_Model_put_31 (by decide) (fun c3586 => ?_) (fun c3586 => ?_)
      · have h := hA c3586
        refine gh_sipush gd_Model_put_34 (by decide) (gh_r0 rfl) ?_
        exact gh_ret0 rfl gd_Model_put_37 ⟨hF, h⟩
      · have h := hB c3586
        refine gh_aload_n gd_Model_put_38 0 rfl (by decide) ?_
        refine gf_63_51 gd_Model_put_39 gh_k1421 hF ?_
        refine gh_aload_n gd_Model_put_42 0 rfl (by decide) ?_
        refine gf_63_50 gd_Model_put_43 gh_k1420 hF rfl ?_
        refine gh_iload_n gd_Model_put_46 1 rfl ?_
        obtain ⟨q3587, h⟩ := h
        obtain ⟨q3588, h⟩ := h
        refine sa_96 gd_Model_put_47 hF q3587 q3588 (fun hF => ?_)
        refine gh_aload_n gd_Model_put_48 0 rfl (by decide) ?_
        refine gh_dup gd_Model_put_49 (by decide) ?_
        refine gf_63_50 gd_Model_put_50 gh_k1420 hF (gh_u_a (by decide)) ?_
        refine gh_iconst gd_Model_put_53 (gh_r0 rfl) ?_
        obtain ⟨q3589, h⟩ := h
        refine gh_iadd gd_Model_put_54 q3589 ?_
        refine pf_63_50 gd_Model_put_55 gh_k1420 hF (fun hF => ?_)
        refine gh_aload_n gd_Model_put_58 0 rfl (by decide) ?_
        refine cv_Model_changed (d := d) gd_Model_put_59 gh_k1804 hF (Nat.le_of_ble_eq_true rfl) (gh_C.mono (s_Model_changed d hF h) (fun r3590 m3591 hq => ?_))
        obtain ⟨hF, h⟩ := hq
        refine gh_aload_n gd_Model_put_62 0 rfl (by decide) ?_
        refine gf_63_50 gd_Model_put_63 gh_k1420 hF rfl ?_
        exact gh_ret0 rfl gd_Model_put_66 ⟨hF, h⟩
  · have h := hB c3584
    refine gh_sipush gd_Model_put_10 (by decide) (gh_r0 rfl) ?_
    exact gh_ret0 rfl gd_Model_put_13 ⟨hF, h⟩
def w_Model_back (v1 : Int) (m : gh_M) (Q : Int → gh_M → Prop) : Prop := (((¬ (v1 < 0) ∧ (v1 ≤ (m 63 50))) → (((m 63 24) = 0 → Q (-1003) m) ∧ (¬ ((m 63 24) = 0) → gh_i ((m 63 50) - v1) ∧ w_Model_changed (gh_u m 63 50 ((m 63 50) - v1)) (fun _ m3596 => Q (m3596 63 50) m3596)))) ∧ (¬ ((¬ (v1 < 0) ∧ (v1 ≤ (m 63 50)))) → Q (-1002) m))
theorem s_Model_back {E : gh_E} {m : gh_M} {Q : Int → gh_M → Prop} (d : Nat) (v1 : Int) (hF : gh_F m) (h : w_Model_back v1 m Q) : gh_C E gh_yModel_back prog_14_method_74_code 2 (some .int) 0 (d + 1) [(2, 63), (0, v1)] m (fun r m1 => gh_F m1 ∧ Q r m1) := by
  refine gh_enter2 (L := [(0, 2, 63), (1, 0, v1)]) (by decide +kernel) gh_rt0 (Nat.le_of_ble_eq_true rfl) rfl rfl ?_
  unfold w_Model_back at h
  refine gh_iload_n gd_Model_back_0 1 rfl ?_
  refine gh_iconst gd_Model_back_1 (gh_r0 rfl) ?_
  refine gh_aload_n gd_Model_back_2 0 rfl (by decide) ?_
  refine gf_63_50 gd_Model_back_3 gh_k1420 hF rfl ?_
  refine cv_Model_in (d := d) gd_Model_back_6 gh_k1631 (Nat.le_of_ble_eq_true rfl) (gh_C.pe (e_Model_in d v1 0 (m 63 50)) ?_)
  obtain ⟨hA, hB⟩ := h
  refine gh_bne (tgt := 16) gd_Model_back_9 (by decide) (fun c3592 => ?_) (fun c3592 => ?_)
  · have h := hA c3592
    refine gh_aload_n gd_Model_back_16 0 rfl (by decide) ?_
    refine gf_63_24 gd_Model_back_17 gh_k1394 hF rfl ?_
    obtain ⟨hA, hB⟩ := h
    refine gh_zne (tgt := 27) gd_Model_back_20 (by decide) (fun c3593 => ?_) (fun c3593 => ?_)
    · have h := hA c3593
      refine gh_sipush gd_Model_back_23 (by decide) (gh_r0 rfl) ?_
      exact gh_ret0 rfl gd_Model_back_26 ⟨hF, h⟩
    · have h := hB c3593
      refine gh_aload_n gd_Model_back_27 0 rfl (by decide) ?_
      refine gh_dup gd_Model_back_28 (by decide) ?_
      refine gf_63_50 gd_Model_back_29 gh_k1420 hF rfl ?_
      refine gh_iload_n gd_Model_back_32 1 rfl ?_
      obtain ⟨q3594, h⟩ := h
      refine gh_isub gd_Model_back_33 q3594 ?_
      refine pf_63_50 gd_Model_back_34 gh_k1420 hF (fun hF => ?_)
      refine gh_aload_n gd_Model_back_37 0 rfl (by decide) ?_
      refine cv_Model_changed (d := d) gd_Model_back_38 gh_k1804 hF (Nat.le_of_ble_eq_true rfl) (gh_C.mono (s_Model_changed d hF h) (fun r3595 m3596 hq => ?_))
      obtain ⟨hF, h⟩ := hq
      refine gh_aload_n gd_Model_back_41 0 rfl (by decide) ?_
      refine gf_63_50 gd_Model_back_42 gh_k1420 hF rfl ?_
      exact gh_ret0 rfl gd_Model_back_45 ⟨hF, h⟩
  · have h := hB c3592
    refine gh_sipush gd_Model_back_12 (by decide) (gh_r0 rfl) ?_
    exact gh_ret0 rfl gd_Model_back_15 ⟨hF, h⟩
def f_Model_goesOn_43 (v1 : Int) (v3 : Int) (v4 : Int) (v5 : Int) (K30 : Int → Int → gh_M → Prop) (K43 : Int → Int → gh_M → Prop) (v2 : Int) (v6 : Int) (m : gh_M) : Prop := ∃ J134 : Int → gh_M → Prop, (∀ (v2' : Int) (m : gh_M), J134 v2' m → gh_i (v5 + 1) ∧ K30 v2' (v5 + 1) m) ∧ (((v6 ≤ (m 63 50)) → ((gh_i (405 * v1) ∧ gh_i (81 * v3) ∧ gh_i ((405 * v1) + (81 * v3)) ∧ gh_i (9 * v4) ∧ gh_i (((405 * v1) + (81 * v3)) + (9 * v4)) ∧ gh_i ((((405 * v1) + (81 * v3)) + (9 * v4)) + v5)) ∧ 0 ≤ ((((405 * v1) + (81 * v3)) + (9 * v4)) + v5) ∧ (((((405 * v1) + (81 * v3)) + (9 * v4)) + v5)) < 8100))) ∧ (((¬ (v6 ≤ (m 63 50)) ∨ ((m 98 (((((405 * v1) + (81 * v3)) + (9 * v4)) + v5))) = 0)) → J134 v2 m) ∧ (¬ (¬ (v6 ≤ (m 63 50)) ∨ ((m 98 (((((405 * v1) + (81 * v3)) + (9 * v4)) + v5))) = 0)) → gh_i (v3 + 1) ∧ (gh_i (405 * v1) ∧ gh_i (81 * (v3 + 1)) ∧ gh_i ((405 * v1) + (81 * (v3 + 1))) ∧ gh_i (9 * v4) ∧ gh_i (((405 * v1) + (81 * (v3 + 1))) + (9 * v4)) ∧ gh_i ((((405 * v1) + (81 * (v3 + 1))) + (9 * v4)) + v6)) ∧ 0 ≤ ((((405 * v1) + (81 * (v3 + 1))) + (9 * v4)) + v6) ∧ (((((405 * v1) + (81 * (v3 + 1))) + (9 * v4)) + v6)) < 8100 ∧ ∃ J128 : Int → gh_M → Prop, (∀ (v2' : Int) (m : gh_M), J128 v2' m → gh_i (v6 + 1) ∧ K43 v2' (v6 + 1) m) ∧ ((((m 98 (((((405 * v1) + (81 * (v3 + 1))) + (9 * v4)) + v6))) = 0) → (gh_i (4 * v1) ∧ gh_i ((4 * v1) + v3) ∧ 0 ≤ (4 * v1) + v3 ∧ ((4 * v1) + v3) < 80 ∧ k_Model_partMakes (m 81 ((4 * v1) + v3)) v5 v6 m))) ∧ (((¬ ((m 98 (((((405 * v1) + (81 * (v3 + 1))) + (9 * v4)) + v6))) = 0) ∨ ((x_Model_partMakes (m 81 ((4 * v1) + v3)) v5 v6 m) = 0)) → J128 v2 m) ∧ (¬ (¬ ((m 98 (((((405 * v1) + (81 * (v3 + 1))) + (9 * v4)) + v6))) = 0) ∨ ((x_Model_partMakes (m 81 ((4 * v1) + v3)) v5 v6 m) = 0)) → gh_i (v3 + 1) ∧ (gh_i (405 * v1) ∧ gh_i (81 * (v3 + 1)) ∧ gh_i ((405 * v1) + (81 * (v3 + 1))) ∧ gh_i (9 * v4) ∧ gh_i (((405 * v1) + (81 * (v3 + 1))) + (9 * v4)) ∧ gh_i ((((405 * v1) + (81 * (v3 + 1))) + (9 * v4)) + v6)) ∧ 0 ≤ ((((405 * v1) + (81 * (v3 + 1))) + (9 * v4)) + v6) ∧ (((((405 * v1) + (81 * (v3 + 1))) + (9 * v4)) + v6)) < 8100 ∧ J128 1 (gh_u m 98 (((((405 * v1) + (81 * (v3 + 1))) + (9 * v4)) + v6)) 1)))))
def f_Model_goesOn_30 (v1 : Int) (v3 : Int) (v4 : Int) (K17 : Int → Int → gh_M → Prop) (K30 : Int → Int → gh_M → Prop) (v2 : Int) (v5 : Int) (m : gh_M) : Prop := ((v5 ≤ (m 63 50) → gh_M2 (fun K43 v2 v6 m => f_Model_goesOn_43 v1 v3 v4 v5 K30 K43 v2 v6 m) v2 v5 m) ∧ (¬ (v5 ≤ (m 63 50)) → gh_i (v4 + 1) ∧ K17 v2 (v4 + 1) m))
def f_Model_goesOn_17 (v1 : Int) (v3 : Int) (K4 : Int → Int → gh_M → Prop) (K17 : Int → Int → gh_M → Prop) (v2 : Int) (v4 : Int) (m : gh_M) : Prop := ((v4 ≤ (m 63 50) → gh_M2 (fun K30 v2 v5 m => f_Model_goesOn_30 v1 v3 v4 K17 K30 v2 v5 m) v2 v4 m) ∧ (¬ (v4 ≤ (m 63 50)) → gh_i (v3 + 1) ∧ K4 v2 (v3 + 1) m))
def f_Model_goesOn_154 (v1 : Int) (Q : Int → gh_M → Prop) (K154 : Int → Int → gh_M → Prop) (v2 : Int) (v3 : Int) (m : gh_M) : Prop := ((v3 < 81 → gh_i (405 * v1) ∧ 0 ≤ v1 ∧ v1 < 20 ∧ gh_i (81 * (m 80 v1)) ∧ gh_i ((405 * v1) + (81 * (m 80 v1))) ∧ gh_i (((405 * v1) + (81 * (m 80 v1))) + v3) ∧ 0 ≤ ((405 * v1) + (81 * (m 80 v1))) + v3 ∧ (((405 * v1) + (81 * (m 80 v1))) + v3) < 8100 ∧ ∃ J223 : Int → gh_M → Prop, (∀ (v2' : Int) (m : gh_M), J223 v2' m → gh_i (v3 + 1) ∧ K154 v2' (v3 + 1) m) ∧ ((¬ ((m 98 (((405 * v1) + (81 * (m 80 v1))) + v3)) = 0) → (0 ≤ v1 ∧ v1 < 20 ∧ gh_i (81 * (m 79 v1)) ∧ gh_i ((81 * (m 79 v1)) + v3) ∧ 0 ≤ (81 * (m 79 v1)) + v3 ∧ ((81 * (m 79 v1)) + v3) < 648))) ∧ (((¬ ((m 98 (((405 * v1) + (81 * (m 80 v1))) + v3)) = 0) ∧ ((m 97 ((81 * (m 79 v1)) + v3)) = 0)) → 0 ≤ v1 ∧ v1 < 20 ∧ gh_i (81 * (m 79 v1)) ∧ gh_i ((81 * (m 79 v1)) + v3) ∧ 0 ≤ (81 * (m 79 v1)) + v3 ∧ ((81 * (m 79 v1)) + v3) < 648 ∧ J223 1 (gh_u m 97 ((81 * (m 79 v1)) + v3) 1)) ∧ (¬ (¬ ((m 98 (((405 * v1) + (81 * (m 80 v1))) + v3)) = 0) ∧ ((m 97 ((81 * (m 79 v1)) + v3)) = 0)) → J223 v2 m))) ∧ (¬ (v3 < 81) → (v2 = 0 ∨ v2 = 1) ∧ Q v2 m))
def f_Model_goesOn_4 (v1 : Int) (Q : Int → gh_M → Prop) (K4 : Int → Int → gh_M → Prop) (v2 : Int) (v3 : Int) (m : gh_M) : Prop := 0 ≤ v1 ∧ v1 < 20 ∧ ((v3 < (m 80 v1) → gh_M2 (fun K17 v2 v4 m => f_Model_goesOn_17 v1 v3 K4 K17 v2 v4 m) v2 0 m) ∧ (¬ (v3 < (m 80 v1)) → gh_M2 (fun K154 v2 v3 m => f_Model_goesOn_154 v1 Q K154 v2 v3 m) v2 0 m))
def w_Model_goesOn (v1 : Int) (m : gh_M) (Q : Int → gh_M → Prop) : Prop := gh_M2 (fun K4 v2 v3 m => f_Model_goesOn_4 v1 Q K4 v2 v3 m) 0 0 m
theorem b_Model_goesOn_43 {E : gh_E} {v1 : Int} {v3 : Int} {v4 : Int} {v5 : Int} {K30 : Int → Int → gh_M → Prop} {Q : Int → gh_M → Prop} {K43 : Int → Int → gh_M → Prop} (d : Nat) (hK30 : ∀ (v2 : Int) (v5 : Int) (m : gh_M), gh_F m → K30 v2 v5 m → gh_T E (gh_yModel_goesOn.cls, prog_14_method_69_code, 7, false, 8) (d + 1) 30 [(0, 2, 63), (1, 0, v1), (2, 0, v2), (3, 0, v3), (4, 0, v4), (5, 0, v5)] [] m (fun r m1 => gh_F m1 ∧ Q r m1)) (hK : ∀ (v2 : Int) (v6 : Int) (m : gh_M), gh_F m → K43 v2 v6 m → gh_T E (gh_yModel_goesOn.cls, prog_14_method_69_code, 7, false, 8) (d + 1) 43 [(0, 2, 63), (1, 0, v1), (2, 0, v2), (3, 0, v3), (4, 0, v4), (5, 0, v5), (6, 0, v6)] [] m (fun r m1 => gh_F m1 ∧ Q r m1)) (v2 : Int) (v6 : Int) (m : gh_M) (hF : gh_F m) (h : f_Model_goesOn_43 v1 v3 v4 v5 K30 K43 v2 v6 m) : gh_T E (gh_yModel_goesOn.cls, prog_14_method_69_code, 7, false, 8) (d + 1) 43 [(0, 2, 63), (1, 0, v1), (2, 0, v2), (3, 0, v3), (4, 0, v4), (5, 0, v5), (6, 0, v6)] [] m (fun r m1 => gh_F m1 ∧ Q r m1) := by
  have hK43 := hK
  unfold f_Model_goesOn_43 at h
  refine gh_iload gd_Model_goesOn_43 6 rfl ?_
  refine gh_aload_n gd_Model_goesOn_45 0 rfl (by decide) ?_
  refine gf_63_50 gd_Model_goesOn_46 gh_k1420 hF rfl ?_
  obtain ⟨J134, hJ134, h⟩ := h
  have hJ134 : ∀ (v2' : Int) (m : gh_M), gh_F m → J134 v2' m → gh_T E (gh_yModel_goesOn.cls, prog_14_method_69_code, 7, false, 8) (d + 1) 134 [(0, 2, 63), (1, 0, v1), (2, 0, v2'), (3, 0, v3), (4, 0, v4), (5, 0, v5)] [] m (fun r m1 => gh_F m1 ∧ Q r m1) := by
    intro v2' m hF hj
    have h := hJ134 v2' m hj
    obtain ⟨q3602, h⟩ := h
    refine gh_iinc (L2 := [(5, 0, v5 + 1), (0, 2, 63), (1, 0, v1), (2, 0, v2'), (3, 0, v3), (4, 0, v4)]) gd_Model_goesOn_134 5 rfl q3602 (by decide) rfl ?_
    refine gh_goto (tgt := 30) gd_Model_goesOn_137 (by decide) ?_
    refine gh_pick (L2 := [(0, 2, 63), (1, 0, v1), (2, 0, v2'), (3, 0, v3), (4, 0, v4), (5, 0, v5 + 1)]) [1, 2, 3, 4, 5, 0] rfl ?_
    exact hK30 v2' (v5 + 1) m hF h
  obtain ⟨hk, hA, hB⟩ := h
  have k3606 : (¬ (v6 ≤ (m 63 50)) ∨ ((m 98 (((((405 * v1) + (81 * v3)) + (9 * v4)) + v5))) = 0)) → gh_T E (gh_yModel_goesOn.cls, prog_14_method_69_code, 7, false, 8) (d + 1) 134 [(0, 2, 63), (1, 0, v1), (2, 0, v2), (3, 0, v3), (4, 0, v4), (5, 0, v5), (6, 0, v6)] [] m (fun r m1 => gh_F m1 ∧ Q r m1) := by
    intro c
    have h := hA c
    refine gh_pick (L2 := [(0, 2, 63), (1, 0, v1), (2, 0, v2), (3, 0, v3), (4, 0, v4), (5, 0, v5)]) [0, 1, 2, 3, 4, 5] rfl ?_
    exact hJ134 v2 m hF h
  have k3607 : ¬ (¬ (v6 ≤ (m 63 50)) ∨ ((m 98 (((((405 * v1) + (81 * v3)) + (9 * v4)) + v5))) = 0)) → gh_T E (gh_yModel_goesOn.cls, prog_14_method_69_code, 7, false, 8) (d + 1) 69 [(0, 2, 63), (1, 0, v1), (2, 0, v2), (3, 0, v3), (4, 0, v4), (5, 0, v5), (6, 0, v6)] [] m (fun r m1 => gh_F m1 ∧ Q r m1) := by
    intro c
    have h := hB c
    refine gh_aload_n gd_Model_goesOn_69 0 rfl (by decide) ?_
    refine gf_63_54 gd_Model_goesOn_70 gh_k1424 hF ?_
    refine gh_iload_n gd_Model_goesOn_73 1 rfl ?_
    refine gh_iload_n gd_Model_goesOn_74 3 rfl ?_
    refine gh_iconst gd_Model_goesOn_75 (gh_r0 rfl) ?_
    obtain ⟨q3608, h⟩ := h
    refine gh_iadd gd_Model_goesOn_76 q3608 ?_
    refine gh_iload gd_Model_goesOn_77 4 rfl ?_
    refine gh_iload gd_Model_goesOn_79 6 rfl ?_
    obtain ⟨q3609, h⟩ := h
    refine cv_Model_begun (d := d) gd_Model_goesOn_81 gh_k1907 (Nat.le_of_ble_eq_true rfl) (gh_C.pe (e_Model_begun d v1 (v3 + 1) v4 v6 q3609) ?_)
    obtain ⟨q3610, h⟩ := h
    obtain ⟨q3611, h⟩ := h
    refine la_98 gd_Model_goesOn_84 hF q3610 q3611 rfl ?_
    obtain ⟨J128, hJ128, h⟩ := h
    have hJ128 : ∀ (v2' : Int) (m : gh_M), gh_F m → J128 v2' m → gh_T E (gh_yModel_goesOn.cls, prog_14_method_69_code, 7, false, 8) (d + 1) 128 [(0, 2, 63), (1, 0, v1), (2, 0, v2'), (3, 0, v3), (4, 0, v4), (5, 0, v5), (6, 0, v6)] [] m (fun r m1 => gh_F m1 ∧ Q r m1) := by
      intro v2' m hF hj
      have h := hJ128 v2' m hj
      obtain ⟨q3612, h⟩ := h
      refine gh_iinc (L2 := [(6, 0, v6 + 1), (0, 2, 63), (1, 0, v1), (2, 0, v2'), (3, 0, v3), (4, 0, v4), (5, 0, v5)]) gd_Model_goesOn_128 6 rfl q3612 (by decide) rfl ?_
      refine gh_goto (tgt := 43) gd_Model_goesOn_131 (by decide) ?_
      refine gh_pick (L2 := [(0, 2, 63), (1, 0, v1), (2, 0, v2'), (3, 0, v3), (4, 0, v4), (5, 0, v5), (6, 0, v6 + 1)]) [1, 2, 3, 4, 5, 6, 0] rfl ?_
      exact hK43 v2' (v6 + 1) m hF h
    obtain ⟨hk, hA, hB⟩ := h
    have k3618 : (¬ ((m 98 (((((405 * v1) + (81 * (v3 + 1))) + (9 * v4)) + v6))) = 0) ∨ ((x_Model_partMakes (m 81 ((4 * v1) + v3)) v5 v6 m) = 0)) → gh_T E (gh_yModel_goesOn.cls, prog_14_method_69_code, 7, false, 8) (d + 1) 128 [(0, 2, 63), (1, 0, v1), (2, 0, v2), (3, 0, v3), (4, 0, v4), (5, 0, v5), (6, 0, v6)] [] m (fun r m1 => gh_F m1 ∧ Q r m1) := by
      intro c
      have h := hA c
      exact hJ128 v2 m hF h
    have k3619 : ¬ (¬ ((m 98 (((((405 * v1) + (81 * (v3 + 1))) + (9 * v4)) + v6))) = 0) ∨ ((x_Model_partMakes (m 81 ((4 * v1) + v3)) v5 v6 m) = 0)) → gh_T E (gh_yModel_goesOn.cls, prog_14_method_69_code, 7, false, 8) (d + 1) 109 [(0, 2, 63), (1, 0, v1), (2, 0, v2), (3, 0, v3), (4, 0, v4), (5, 0, v5), (6, 0, v6)] [] m (fun r m1 => gh_F m1 ∧ Q r m1) := by
      intro c
      have h := hB c
      refine gh_aload_n gd_Model_goesOn_109 0 rfl (by decide) ?_
      refine gf_63_54 gd_Model_goesOn_110 gh_k1424 hF ?_
      refine gh_iload_n gd_Model_goesOn_113 1 rfl ?_
      refine gh_iload_n gd_Model_goesOn_114 3 rfl ?_
      refine gh_iconst gd_Model_goesOn_115 (gh_r0 rfl) ?_
      obtain ⟨q3620, h⟩ := h
      refine gh_iadd gd_Model_goesOn_116 q3620 ?_
      refine gh_iload gd_Model_goesOn_117 4 rfl ?_
      refine gh_iload gd_Model_goesOn_119 6 rfl ?_
      obtain ⟨q3621, h⟩ := h
      refine cv_Model_begun (d := d) gd_Model_goesOn_121 gh_k1907 (Nat.le_of_ble_eq_true rfl) (gh_C.pe (e_Model_begun d v1 (v3 + 1) v4 v6 q3621) ?_)
      refine gh_iconst gd_Model_goesOn_124 (gh_r0 rfl) ?_
      obtain ⟨q3622, h⟩ := h
      obtain ⟨q3623, h⟩ := h
      refine sa_98 gd_Model_goesOn_125 hF q3622 q3623 (by decide) (fun hF => ?_)
      refine gh_iconst gd_Model_goesOn_126 (gh_r0 rfl) ?_
      refine gh_istore_n (L2 := [(2, 0, 1), (0, 2, 63), (1, 0, v1), (3, 0, v3), (4, 0, v4), (5, 0, v5), (6, 0, v6)]) gd_Model_goesOn_127 (by decide) rfl ?_
      refine gh_pick (L2 := [(0, 2, 63), (1, 0, v1), (2, 0, 1), (3, 0, v3), (4, 0, v4), (5, 0, v5), (6, 0, v6)]) [1, 2, 0, 3, 4, 5, 6] rfl ?_
      exact hJ128 1 (gh_u m 98 (((((405 * v1) + (81 * (v3 + 1))) + (9 * v4)) + v6)) 1) hF h
    refine gh_zne (tgt := 128) gd_Model_goesOn_85 (by decide) (fun c3624 => ?_) (fun c3624 => ?_)
    · have hz : True := trivial
      have hk := hk c3624
      refine gh_aload_n gd_Model_goesOn_88 0 rfl (by decide) ?_
      refine gh_aload_n gd_Model_goesOn_89 0 rfl (by decide) ?_
      refine gf_63_34 gd_Model_goesOn_90 gh_k1404 hF ?_
      refine gh_iconst gd_Model_goesOn_93 (gh_r0 rfl) ?_
      refine gh_iload_n gd_Model_goesOn_94 1 rfl ?_
      obtain ⟨q3613, hk⟩ := hk
      refine gh_imul gd_Model_goesOn_95 q3613 ?_
      refine gh_iload_n gd_Model_goesOn_96 3 rfl ?_
      obtain ⟨q3614, hk⟩ := hk
      refine gh_iadd gd_Model_goesOn_97 q3614 ?_
      obtain ⟨q3615, hk⟩ := hk
      obtain ⟨q3616, hk⟩ := hk
      refine la_81 gd_Model_goesOn_98 hF q3615 q3616 rfl ?_
      refine gh_iload gd_Model_goesOn_99 5 rfl ?_
      refine gh_iload gd_Model_goesOn_101 6 rfl ?_
      have q3617 := hk
      refine cv_Model_partMakes (d := d) gd_Model_goesOn_103 gh_k1910 hF (Nat.le_of_ble_eq_true rfl) (gh_C.pe (e_Model_partMakes d (m 81 ((4 * v1) + v3)) v5 v6 hF q3617) ?_)
      refine gh_zeq (tgt := 128) gd_Model_goesOn_106 (by decide) (fun c3625 => ?_) (fun c3625 => ?_)
      · have hz : True := trivial
        exact k3618 (Or.inr c3625)
      · have hz : True := trivial
        exact k3619 (fun z => z.elim (fun w => w c3624) c3625)
    · have hz : True := trivial
      exact k3618 (Or.inl c3624)
  refine gh_jgt (tgt := 134) gd_Model_goesOn_49 (by decide) (fun c3626 => ?_) (fun c3626 => ?_)
  · have hz : True := trivial
    have hk := hk c3626
    refine gh_aload_n gd_Model_goesOn_52 0 rfl (by decide) ?_
    refine gf_63_54 gd_Model_goesOn_53 gh_k1424 hF ?_
    refine gh_iload_n gd_Model_goesOn_56 1 rfl ?_
    refine gh_iload_n gd_Model_goesOn_57 3 rfl ?_
    refine gh_iload gd_Model_goesOn_58 4 rfl ?_
    refine gh_iload gd_Model_goesOn_60 5 rfl ?_
    obtain ⟨q3603, hk⟩ := hk
    refine cv_Model_begun (d := d) gd_Model_goesOn_62 gh_k1907 (Nat.le_of_ble_eq_true rfl) (gh_C.pe (e_Model_begun d v1 v3 v4 v5 q3603) ?_)
    obtain ⟨q3604, hk⟩ := hk
    have q3605 := hk
    refine la_98 gd_Model_goesOn_65 hF q3604 q3605 rfl ?_
    refine gh_zeq (tgt := 134) gd_Model_goesOn_66 (by decide) (fun c3627 => ?_) (fun c3627 => ?_)
    · have hz : True := trivial
      exact k3606 (Or.inr c3627)
    · have hz : True := trivial
      exact k3607 (fun z => z.elim (fun w => w c3626) c3627)
  · have hz : True := trivial
    exact k3606 (Or.inl c3626)
theorem b_Model_goesOn_30 {E : gh_E} {v1 : Int} {v3 : Int} {v4 : Int} {K17 : Int → Int → gh_M → Prop} {Q : Int → gh_M → Prop} {K30 : Int → Int → gh_M → Prop} (d : Nat) (hK17 : ∀ (v2 : Int) (v4 : Int) (m : gh_M), gh_F m → K17 v2 v4 m → gh_T E (gh_yModel_goesOn.cls, prog_14_method_69_code, 7, false, 8) (d + 1) 17 [(0, 2, 63), (1, 0, v1), (2, 0, v2), (3, 0, v3), (4, 0, v4)] [] m (fun r m1 => gh_F m1 ∧ Q r m1)) (hK : ∀ (v2 : Int) (v5 : Int) (m : gh_M), gh_F m → K30 v2 v5 m → gh_T E (gh_yModel_goesOn.cls, prog_14_method_69_code, 7, false, 8) (d + 1) 30 [(0, 2, 63), (1, 0, v1), (2, 0, v2), (3, 0, v3), (4, 0, v4), (5, 0, v5)] [] m (fun r m1 => gh_F m1 ∧ Q r m1)) (v2 : Int) (v5 : Int) (m : gh_M) (hF : gh_F m) (h : f_Model_goesOn_30 v1 v3 v4 K17 K30 v2 v5 m) : gh_T E (gh_yModel_goesOn.cls, prog_14_method_69_code, 7, false, 8) (d + 1) 30 [(0, 2, 63), (1, 0, v1), (2, 0, v2), (3, 0, v3), (4, 0, v4), (5, 0, v5)] [] m (fun r m1 => gh_F m1 ∧ Q r m1) := by
  have hK30 := hK
  unfold f_Model_goesOn_30 at h
  refine gh_iload gd_Model_goesOn_30 5 rfl ?_
  refine gh_aload_n gd_Model_goesOn_32 0 rfl (by decide) ?_
  refine gf_63_50 gd_Model_goesOn_33 gh_k1420 hF rfl ?_
  obtain ⟨hA, hB⟩ := h
  refine gh_jgt (tgt := 140) gd_Model_goesOn_36 (by decide) (fun c3601 => ?_) (fun c3601 => ?_)
  · have h := hA c3601
    refine gh_iload gd_Model_goesOn_39 5 rfl ?_
    refine gh_istore (L2 := [(6, 0, v5), (0, 2, 63), (1, 0, v1), (2, 0, v2), (3, 0, v3), (4, 0, v4), (5, 0, v5)]) gd_Model_goesOn_41 (by decide) rfl ?_
    refine gh_pick (L2 := [(0, 2, 63), (1, 0, v1), (2, 0, v2), (3, 0, v3), (4, 0, v4), (5, 0, v5), (6, 0, v5)]) [1, 2, 3, 4, 5, 6, 0] rfl ?_
    exact gh_M2_sound (T := fun v2 v6 m => gh_T E (gh_yModel_goesOn.cls, prog_14_method_69_code, 7, false, 8) (d + 1) 43 [(0, 2, 63), (1, 0, v1), (2, 0, v2), (3, 0, v3), (4, 0, v4), (5, 0, v5), (6, 0, v6)] [] m (fun r m1 => gh_F m1 ∧ Q r m1)) (fun _ _ m => gh_F m) (fun K43 v2 v6 m hK hF h => b_Model_goesOn_43 d hK30 hK v2 v6 m hF h) v2 v5 m hF h
  · have h := hB c3601
    obtain ⟨q3628, h⟩ := h
    refine gh_iinc (L2 := [(4, 0, v4 + 1), (0, 2, 63), (1, 0, v1), (2, 0, v2), (3, 0, v3), (5, 0, v5)]) gd_Model_goesOn_140 4 rfl q3628 (by decide) rfl ?_
    refine gh_goto (tgt := 17) gd_Model_goesOn_143 (by decide) ?_
    refine gh_pick (L2 := [(0, 2, 63), (1, 0, v1), (2, 0, v2), (3, 0, v3), (4, 0, v4 + 1)]) [1, 2, 3, 4, 0] rfl ?_
    exact hK17 v2 (v4 + 1) m hF h
theorem b_Model_goesOn_17 {E : gh_E} {v1 : Int} {v3 : Int} {K4 : Int → Int → gh_M → Prop} {Q : Int → gh_M → Prop} {K17 : Int → Int → gh_M → Prop} (d : Nat) (hK4 : ∀ (v2 : Int) (v3 : Int) (m : gh_M), gh_F m → K4 v2 v3 m → gh_T E (gh_yModel_goesOn.cls, prog_14_method_69_code, 7, false, 8) (d + 1) 4 [(0, 2, 63), (1, 0, v1), (2, 0, v2), (3, 0, v3)] [] m (fun r m1 => gh_F m1 ∧ Q r m1)) (hK : ∀ (v2 : Int) (v4 : Int) (m : gh_M), gh_F m → K17 v2 v4 m → gh_T E (gh_yModel_goesOn.cls, prog_14_method_69_code, 7, false, 8) (d + 1) 17 [(0, 2, 63), (1, 0, v1), (2, 0, v2), (3, 0, v3), (4, 0, v4)] [] m (fun r m1 => gh_F m1 ∧ Q r m1)) (v2 : Int) (v4 : Int) (m : gh_M) (hF : gh_F m) (h : f_Model_goesOn_17 v1 v3 K4 K17 v2 v4 m) : gh_T E (gh_yModel_goesOn.cls, prog_14_method_69_code, 7, false, 8) (d + 1) 17 [(0, 2, 63), (1, 0, v1), (2, 0, v2), (3, 0, v3), (4, 0, v4)] [] m (fun r m1 => gh_F m1 ∧ Q r m1) := by
  have hK17 := hK
  unfold f_Model_goesOn_17 at h
  refine gh_iload gd_Model_goesOn_17 4 rfl ?_
  refine gh_aload_n gd_Model_goesOn_19 0 rfl (by decide) ?_
  refine gf_63_50 gd_Model_goesOn_20 gh_k1420 hF rfl ?_
  obtain ⟨hA, hB⟩ := h
  refine gh_jgt (tgt := 146) gd_Model_goesOn_23 (by decide) (fun c3600 => ?_) (fun c3600 => ?_)
  · have h := hA c3600
    refine gh_iload gd_Model_goesOn_26 4 rfl ?_
    refine gh_istore (L2 := [(5, 0, v4), (0, 2, 63), (1, 0, v1), (2, 0, v2), (3, 0, v3), (4, 0, v4)]) gd_Model_goesOn_28 (by decide) rfl ?_
    refine gh_pick (L2 := [(0, 2, 63), (1, 0, v1), (2, 0, v2), (3, 0, v3), (4, 0, v4), (5, 0, v4)]) [1, 2, 3, 4, 5, 0] rfl ?_
    exact gh_M2_sound (T := fun v2 v5 m => gh_T E (gh_yModel_goesOn.cls, prog_14_method_69_code, 7, false, 8) (d + 1) 30 [(0, 2, 63), (1, 0, v1), (2, 0, v2), (3, 0, v3), (4, 0, v4), (5, 0, v5)] [] m (fun r m1 => gh_F m1 ∧ Q r m1)) (fun _ _ m => gh_F m) (fun K30 v2 v5 m hK hF h => b_Model_goesOn_30 d hK17 hK v2 v5 m hF h) v2 v4 m hF h
  · have h := hB c3600
    obtain ⟨q3629, h⟩ := h
    refine gh_iinc (L2 := [(3, 0, v3 + 1), (0, 2, 63), (1, 0, v1), (2, 0, v2), (4, 0, v4)]) gd_Model_goesOn_146 3 rfl q3629 (by decide) rfl ?_
    refine gh_goto (tgt := 4) gd_Model_goesOn_149 (by decide) ?_
    refine gh_pick (L2 := [(0, 2, 63), (1, 0, v1), (2, 0, v2), (3, 0, v3 + 1)]) [1, 2, 3, 0] rfl ?_
    exact hK4 v2 (v3 + 1) m hF h
theorem b_Model_goesOn_154 {E : gh_E} {v1 : Int} {Q : Int → gh_M → Prop} {K154 : Int → Int → gh_M → Prop} (d : Nat) (hK : ∀ (v2 : Int) (v3 : Int) (m : gh_M), gh_F m → K154 v2 v3 m → gh_T E (gh_yModel_goesOn.cls, prog_14_method_69_code, 7, false, 8) (d + 1) 154 [(0, 2, 63), (1, 0, v1), (2, 0, v2), (3, 0, v3)] [] m (fun r m1 => gh_F m1 ∧ Q r m1)) (v2 : Int) (v3 : Int) (m : gh_M) (hF : gh_F m) (h : f_Model_goesOn_154 v1 Q K154 v2 v3 m) : gh_T E (gh_yModel_goesOn.cls, prog_14_method_69_code, 7, false, 8) (d + 1) 154 [(0, 2, 63), (1, 0, v1), (2, 0, v2), (3, 0, v3)] [] m (fun r m1 => gh_F m1 ∧ Q r m1) := by
  have hK154 := hK
  unfold f_Model_goesOn_154 at h
  refine gh_iload_n gd_Model_goesOn_154 3 rfl ?_
  refine gh_bipush gd_Model_goesOn_155 (by decide) (gh_r0 rfl) ?_
  obtain ⟨hA, hB⟩ := h
  refine gh_jge (tgt := 229) gd_Model_goesOn_157 (by decide) (fun c3630 => ?_) (fun c3630 => ?_)
  · have h := hA c3630
    refine gh_aload_n gd_Model_goesOn_160 0 rfl (by decide) ?_
    refine gf_63_54 gd_Model_goesOn_161 gh_k1424 hF ?_
    refine gh_sipush gd_Model_goesOn_164 (by decide) (gh_r0 rfl) ?_
    refine gh_iload_n gd_Model_goesOn_167 1 rfl ?_
    obtain ⟨q3631, h⟩ := h
    refine gh_imul gd_Model_goesOn_168 q3631 ?_
    refine gh_bipush gd_Model_goesOn_169 (by decide) (gh_r0 rfl) ?_
    refine gh_aload_n gd_Model_goesOn_171 0 rfl (by decide) ?_
    refine gf_63_33 gd_Model_goesOn_172 gh_k1403 hF ?_
    refine gh_iload_n gd_Model_goesOn_175 1 rfl ?_
    obtain ⟨q3632, h⟩ := h
    obtain ⟨q3633, h⟩ := h
    refine la_80 gd_Model_goesOn_176 hF q3632 q3633 rfl ?_
    obtain ⟨q3634, h⟩ := h
    refine gh_imul gd_Model_goesOn_177 q3634 ?_
    obtain ⟨q3635, h⟩ := h
    refine gh_iadd gd_Model_goesOn_178 q3635 ?_
    refine gh_iload_n gd_Model_goesOn_179 3 rfl ?_
    obtain ⟨q3636, h⟩ := h
    refine gh_iadd gd_Model_goesOn_180 q3636 ?_
    obtain ⟨q3637, h⟩ := h
    obtain ⟨q3638, h⟩ := h
    refine la_98 gd_Model_goesOn_181 hF q3637 q3638 rfl ?_
    obtain ⟨J223, hJ223, h⟩ := h
    have hJ223 : ∀ (v2' : Int) (m : gh_M), gh_F m → J223 v2' m → gh_T E (gh_yModel_goesOn.cls, prog_14_method_69_code, 7, false, 8) (d + 1) 223 [(0, 2, 63), (1, 0, v1), (2, 0, v2'), (3, 0, v3)] [] m (fun r m1 => gh_F m1 ∧ Q r m1) := by
      intro v2' m hF hj
      have h := hJ223 v2' m hj
      obtain ⟨q3639, h⟩ := h
      refine gh_iinc (L2 := [(3, 0, v3 + 1), (0, 2, 63), (1, 0, v1), (2, 0, v2')]) gd_Model_goesOn_223 3 rfl q3639 (by decide) rfl ?_
      refine gh_goto (tgt := 154) gd_Model_goesOn_226 (by decide) ?_
      refine gh_pick (L2 := [(0, 2, 63), (1, 0, v1), (2, 0, v2'), (3, 0, v3 + 1)]) [1, 2, 3, 0] rfl ?_
      exact hK154 v2' (v3 + 1) m hF h
    obtain ⟨hk, hA, hB⟩ := h
    have k3646 : (¬ ((m 98 (((405 * v1) + (81 * (m 80 v1))) + v3)) = 0) ∧ ((m 97 ((81 * (m 79 v1)) + v3)) = 0)) → gh_T E (gh_yModel_goesOn.cls, prog_14_method_69_code, 7, false, 8) (d + 1) 204 [(0, 2, 63), (1, 0, v1), (2, 0, v2), (3, 0, v3)] [] m (fun r m1 => gh_F m1 ∧ Q r m1) := by
      intro c
      have h := hA c
      refine gh_aload_n gd_Model_goesOn_204 0 rfl (by decide) ?_
      refine gf_63_53 gd_Model_goesOn_205 gh_k1423 hF ?_
      refine gh_bipush gd_Model_goesOn_208 (by decide) (gh_r0 rfl) ?_
      refine gh_aload_n gd_Model_goesOn_210 0 rfl (by decide) ?_
      refine gf_63_32 gd_Model_goesOn_211 gh_k1402 hF ?_
      refine gh_iload_n gd_Model_goesOn_214 1 rfl ?_
      obtain ⟨q3648, h⟩ := h
      obtain ⟨q3649, h⟩ := h
      refine la_79 gd_Model_goesOn_215 hF q3648 q3649 rfl ?_
      obtain ⟨q3650, h⟩ := h
      refine gh_imul gd_Model_goesOn_216 q3650 ?_
      refine gh_iload_n gd_Model_goesOn_217 3 rfl ?_
      obtain ⟨q3651, h⟩ := h
      refine gh_iadd gd_Model_goesOn_218 q3651 ?_
      refine gh_iconst gd_Model_goesOn_219 (gh_r0 rfl) ?_
      obtain ⟨q3652, h⟩ := h
      obtain ⟨q3653, h⟩ := h
      refine sa_97 gd_Model_goesOn_220 hF q3652 q3653 (by decide) (fun hF => ?_)
      refine gh_iconst gd_Model_goesOn_221 (gh_r0 rfl) ?_
      refine gh_istore_n (L2 := [(2, 0, 1), (0, 2, 63), (1, 0, v1), (3, 0, v3)]) gd_Model_goesOn_222 (by decide) rfl ?_
      refine gh_pick (L2 := [(0, 2, 63), (1, 0, v1), (2, 0, 1), (3, 0, v3)]) [1, 2, 0, 3] rfl ?_
      exact hJ223 1 (gh_u m 97 ((81 * (m 79 v1)) + v3) 1) hF h
    have k3647 : ¬ (¬ ((m 98 (((405 * v1) + (81 * (m 80 v1))) + v3)) = 0) ∧ ((m 97 ((81 * (m 79 v1)) + v3)) = 0)) → gh_T E (gh_yModel_goesOn.cls, prog_14_method_69_code, 7, false, 8) (d + 1) 223 [(0, 2, 63), (1, 0, v1), (2, 0, v2), (3, 0, v3)] [] m (fun r m1 => gh_F m1 ∧ Q r m1) := by
      intro c
      have h := hB c
      exact hJ223 v2 m hF h
    refine gh_zeq (tgt := 223) gd_Model_goesOn_182 (by decide) (fun c3654 => ?_) (fun c3654 => ?_)
    · have hz : True := trivial
      exact k3647 (fun z => z.1 c3654)
    · have hz : True := trivial
      have hk := hk c3654
      refine gh_aload_n gd_Model_goesOn_185 0 rfl (by decide) ?_
      refine gf_63_53 gd_Model_goesOn_186 gh_k1423 hF ?_
      refine gh_bipush gd_Model_goesOn_189 (by decide) (gh_r0 rfl) ?_
      refine gh_aload_n gd_Model_goesOn_191 0 rfl (by decide) ?_
      refine gf_63_32 gd_Model_goesOn_192 gh_k1402 hF ?_
      refine gh_iload_n gd_Model_goesOn_195 1 rfl ?_
      obtain ⟨q3640, hk⟩ := hk
      obtain ⟨q3641, hk⟩ := hk
      refine la_79 gd_Model_goesOn_196 hF q3640 q3641 rfl ?_
      obtain ⟨q3642, hk⟩ := hk
      refine gh_imul gd_Model_goesOn_197 q3642 ?_
      refine gh_iload_n gd_Model_goesOn_198 3 rfl ?_
      obtain ⟨q3643, hk⟩ := hk
      refine gh_iadd gd_Model_goesOn_199 q3643 ?_
      obtain ⟨q3644, hk⟩ := hk
      have q3645 := hk
      refine la_97 gd_Model_goesOn_200 hF q3644 q3645 rfl ?_
      refine gh_zne (tgt := 223) gd_Model_goesOn_201 (by decide) (fun c3655 => ?_) (fun c3655 => ?_)
      · have hz : True := trivial
        exact k3646 ⟨c3654, c3655⟩
      · have hz : True := trivial
        exact k3647 (fun z => c3655 z.2)
  · have h := hB c3630
    refine gh_iload_n gd_Model_goesOn_229 2 rfl ?_
    obtain ⟨q3656, h⟩ := h
    exact gh_ret8 rfl gd_Model_goesOn_230 q3656 ⟨hF, h⟩
theorem b_Model_goesOn_4 {E : gh_E} {v1 : Int} {Q : Int → gh_M → Prop} {K4 : Int → Int → gh_M → Prop} (d : Nat) (hK : ∀ (v2 : Int) (v3 : Int) (m : gh_M), gh_F m → K4 v2 v3 m → gh_T E (gh_yModel_goesOn.cls, prog_14_method_69_code, 7, false, 8) (d + 1) 4 [(0, 2, 63), (1, 0, v1), (2, 0, v2), (3, 0, v3)] [] m (fun r m1 => gh_F m1 ∧ Q r m1)) (v2 : Int) (v3 : Int) (m : gh_M) (hF : gh_F m) (h : f_Model_goesOn_4 v1 Q K4 v2 v3 m) : gh_T E (gh_yModel_goesOn.cls, prog_14_method_69_code, 7, false, 8) (d + 1) 4 [(0, 2, 63), (1, 0, v1), (2, 0, v2), (3, 0, v3)] [] m (fun r m1 => gh_F m1 ∧ Q r m1) := by
  have hK4 := hK
  unfold f_Model_goesOn_4 at h
  refine gh_iload_n gd_Model_goesOn_4 3 rfl ?_
  refine gh_aload_n gd_Model_goesOn_5 0 rfl (by decide) ?_
  refine gf_63_33 gd_Model_goesOn_6 gh_k1403 hF ?_
  refine gh_iload_n gd_Model_goesOn_9 1 rfl ?_
  obtain ⟨q3597, h⟩ := h
  obtain ⟨q3598, h⟩ := h
  refine la_80 gd_Model_goesOn_10 hF q3597 q3598 rfl ?_
  obtain ⟨hA, hB⟩ := h
  refine gh_jge (tgt := 152) gd_Model_goesOn_11 (by decide) (fun c3599 => ?_) (fun c3599 => ?_)
  · have h := hA c3599
    refine gh_iconst gd_Model_goesOn_14 (gh_r0 rfl) ?_
    refine gh_istore (L2 := [(4, 0, 0), (0, 2, 63), (1, 0, v1), (2, 0, v2), (3, 0, v3)]) gd_Model_goesOn_15 (by decide) rfl ?_
    refine gh_pick (L2 := [(0, 2, 63), (1, 0, v1), (2, 0, v2), (3, 0, v3), (4, 0, 0)]) [1, 2, 3, 4, 0] rfl ?_
    exact gh_M2_sound (T := fun v2 v4 m => gh_T E (gh_yModel_goesOn.cls, prog_14_method_69_code, 7, false, 8) (d + 1) 17 [(0, 2, 63), (1, 0, v1), (2, 0, v2), (3, 0, v3), (4, 0, v4)] [] m (fun r m1 => gh_F m1 ∧ Q r m1)) (fun _ _ m => gh_F m) (fun K17 v2 v4 m hK hF h => b_Model_goesOn_17 d hK4 hK v2 v4 m hF h) v2 0 m hF h
  · have h := hB c3599
    refine gh_iconst gd_Model_goesOn_152 (gh_r0 rfl) ?_
    refine gh_istore_n (L2 := [(3, 0, 0), (0, 2, 63), (1, 0, v1), (2, 0, v2)]) gd_Model_goesOn_153 (by decide) rfl ?_
    refine gh_pick (L2 := [(0, 2, 63), (1, 0, v1), (2, 0, v2), (3, 0, 0)]) [1, 2, 3, 0] rfl ?_
    exact gh_M2_sound (T := fun v2 v3 m => gh_T E (gh_yModel_goesOn.cls, prog_14_method_69_code, 7, false, 8) (d + 1) 154 [(0, 2, 63), (1, 0, v1), (2, 0, v2), (3, 0, v3)] [] m (fun r m1 => gh_F m1 ∧ Q r m1)) (fun _ _ m => gh_F m) (fun K154 v2 v3 m hK hF h => b_Model_goesOn_154 d hK v2 v3 m hF h) v2 0 m hF h
theorem s_Model_goesOn {E : gh_E} {m : gh_M} {Q : Int → gh_M → Prop} (d : Nat) (v1 : Int) (hF : gh_F m) (h : w_Model_goesOn v1 m Q) : gh_C E gh_yModel_goesOn prog_14_method_69_code 7 (some .boolean) 8 (d + 1) [(2, 63), (0, v1)] m (fun r m1 => gh_F m1 ∧ Q r m1) := by
  refine gh_enter2 (L := [(0, 2, 63), (1, 0, v1)]) (by decide +kernel) gh_rt8 (Nat.le_of_ble_eq_true rfl) rfl rfl ?_
  unfold w_Model_goesOn at h
  refine gh_iconst gd_Model_goesOn_0 (gh_r0 rfl) ?_
  refine gh_istore_n (L2 := [(2, 0, 0), (0, 2, 63), (1, 0, v1)]) gd_Model_goesOn_1 (by decide) rfl ?_
  refine gh_iconst gd_Model_goesOn_2 (gh_r0 rfl) ?_
  refine gh_istore_n (L2 := [(3, 0, 0), (2, 0, 0), (0, 2, 63), (1, 0, v1)]) gd_Model_goesOn_3 (by decide) rfl ?_
  refine gh_pick (L2 := [(0, 2, 63), (1, 0, v1), (2, 0, 0), (3, 0, 0)]) [2, 3, 1, 0] rfl ?_
  exact gh_M2_sound (T := fun v2 v3 m => gh_T E (gh_yModel_goesOn.cls, prog_14_method_69_code, 7, false, 8) (d + 1) 4 [(0, 2, 63), (1, 0, v1), (2, 0, v2), (3, 0, v3)] [] m (fun r m1 => gh_F m1 ∧ Q r m1)) (fun _ _ m => gh_F m) (fun K4 v2 v3 m hK hF h => b_Model_goesOn_4 d hK v2 v3 m hF h) 0 0 m hF h
def w_Model_stand (v1 : Int) (v2 : Int) (v3 : Int) (m : gh_M) (Q : Int → gh_M → Prop) : Prop := gh_i (9 * v1) ∧ gh_i ((9 * v1) + v2) ∧ 0 ≤ (9 * v1) + v2 ∧ ((9 * v1) + v2) < 72 ∧ gh_i (9 * v1) ∧ gh_i ((9 * v1) + v2) ∧ gh_i (9 * v1) ∧ gh_i ((9 * v1) + v2) ∧ 0 ≤ (9 * v1) + v2 ∧ ((9 * v1) + v2) < 72 ∧ 0 ≤ (9 * v1) + v2 ∧ ((9 * v1) + v2) < 72 ∧ Q 0 (gh_u (gh_u m 99 ((9 * v1) + v2) 1) 100 ((9 * v1) + v2) (if (¬ ((m 100 ((9 * v1) + v2)) = 0) ∨ (¬ (v3 = 0))) then (1:Int) else 0))
theorem s_Model_stand {E : gh_E} {m : gh_M} {Q : Int → gh_M → Prop} (d : Nat) (v1 : Int) (v2 : Int) (v3 : Int) (hF : gh_F m) (h : w_Model_stand v1 v2 v3 m Q) : gh_C E gh_yModel_stand prog_14_method_70_code 4 none 9 (d + 0) [(2, 63), (0, v1), (0, v2), (0, v3)] m (fun r m1 => gh_F m1 ∧ Q r m1) := by
  refine gh_enter2 (L := [(0, 2, 63), (1, 0, v1), (2, 0, v2), (3, 0, v3)]) (by decide +kernel) gh_rt9 (Nat.le_of_ble_eq_true rfl) rfl rfl ?_
  unfold w_Model_stand at h
  refine gh_aload_n gd_Model_stand_0 0 rfl (by decide) ?_
  refine gf_63_55 gd_Model_stand_1 gh_k1425 hF ?_
  refine gh_bipush gd_Model_stand_4 (by decide) (gh_r0 rfl) ?_
  refine gh_iload_n gd_Model_stand_6 1 rfl ?_
  obtain ⟨q3657, h⟩ := h
  refine gh_imul gd_Model_stand_7 q3657 ?_
  refine gh_iload_n gd_Model_stand_8 2 rfl ?_
  obtain ⟨q3658, h⟩ := h
  refine gh_iadd gd_Model_stand_9 q3658 ?_
  refine gh_iconst gd_Model_stand_10 (gh_r0 rfl) ?_
  obtain ⟨q3659, h⟩ := h
  obtain ⟨q3660, h⟩ := h
  refine sa_99 gd_Model_stand_11 hF q3659 q3660 (by decide) (fun hF => ?_)
  refine gh_aload_n gd_Model_stand_12 0 rfl (by decide) ?_
  refine gf_63_56 gd_Model_stand_13 gh_k1426 hF ?_
  refine gh_bipush gd_Model_stand_16 (by decide) (gh_r0 rfl) ?_
  refine gh_iload_n gd_Model_stand_18 1 rfl ?_
  obtain ⟨q3661, h⟩ := h
  refine gh_imul gd_Model_stand_19 q3661 ?_
  refine gh_iload_n gd_Model_stand_20 2 rfl ?_
  obtain ⟨q3662, h⟩ := h
  refine gh_iadd gd_Model_stand_21 q3662 ?_
  refine gh_aload_n gd_Model_stand_22 0 rfl (by decide) ?_
  refine gf_63_56 gd_Model_stand_23 gh_k1426 hF ?_
  refine gh_bipush gd_Model_stand_26 (by decide) (gh_r0 rfl) ?_
  refine gh_iload_n gd_Model_stand_28 1 rfl ?_
  obtain ⟨q3663, h⟩ := h
  refine gh_imul gd_Model_stand_29 q3663 ?_
  refine gh_iload_n gd_Model_stand_30 2 rfl ?_
  obtain ⟨q3664, h⟩ := h
  refine gh_iadd gd_Model_stand_31 q3664 ?_
  obtain ⟨q3665, h⟩ := h
  obtain ⟨q3666, h⟩ := h
  refine la_100 gd_Model_stand_32 hF q3665 q3666 (gh_u_a (by decide)) ?_
  have k3667 : ∀ x3668 : Int, x3668 = (if (¬ ((m 100 ((9 * v1) + v2)) = 0) ∨ (¬ (v3 = 0))) then (1:Int) else 0) → gh_T E (gh_yModel_stand.cls, prog_14_method_70_code, 4, false, 9) (d + 0) 45 [(0, 2, 63), (1, 0, v1), (2, 0, v2), (3, 0, v3)] [(0, x3668), (0, (9 * v1) + v2), (2, 100)] (gh_u m 99 ((9 * v1) + v2) 1) (fun r m1 => gh_F m1 ∧ Q r m1) := by
    rintro _ rfl
    obtain ⟨q3669, h⟩ := h
    obtain ⟨q3670, h⟩ := h
    refine sa_100 gd_Model_stand_45 hF q3669 q3670 gh_ib01 (fun hF => ?_)
    exact gh_ret9 rfl gd_Model_stand_46 ⟨hF, h⟩
  refine gh_zne (tgt := 40) gd_Model_stand_33 (by decide) (fun c3671 => ?_) (fun c3671 => ?_)
  · have hz : True := trivial
    refine gh_iload_n gd_Model_stand_36 3 rfl ?_
    refine gh_zeq (tgt := 44) gd_Model_stand_37 (by decide) (fun c3672 => ?_) (fun c3672 => ?_)
    · have hz : True := trivial
      refine gh_iconst gd_Model_stand_44 (gh_r0 rfl) ?_
      exact k3667 _ (if_neg (c := (¬ ((m 100 ((9 * v1) + v2)) = 0) ∨ (¬ (v3 = 0)))) (fun z => z.elim (fun w => w c3671) (not_not_intro c3672))).symm
    · have hz : True := trivial
      refine gh_iconst gd_Model_stand_40 (gh_r0 rfl) ?_
      refine gh_goto (tgt := 45) gd_Model_stand_41 (by decide) ?_
      exact k3667 _ (if_pos (c := (¬ ((m 100 ((9 * v1) + v2)) = 0) ∨ (¬ (v3 = 0)))) (Or.inr c3672)).symm
  · have hz : True := trivial
    refine gh_iconst gd_Model_stand_40 (gh_r0 rfl) ?_
    refine gh_goto (tgt := 45) gd_Model_stand_41 (by decide) ?_
    exact k3667 _ (if_pos (c := (¬ ((m 100 ((9 * v1) + v2)) = 0) ∨ (¬ (v3 = 0)))) (Or.inl c3671)).symm
def f_Model_findStanding_126 (v1 : Int) (v2 : Int) (v3 : Int) (v4 : Int) (v5 : Int) (K93 : Int → gh_M → Prop) (K126 : Int → gh_M → Prop) (v6 : Int) (m : gh_M) : Prop := ∃ J227 : gh_M → Prop, (∀ (m : gh_M), J227 m → gh_i (v5 + 1) ∧ K93 (v5 + 1) m) ∧ (((v6 ≤ (m 63 50)) → (0 ≤ v3 ∧ v3 < 20 ∧ gh_i (9 * (m 79 v3)) ∧ gh_i ((9 * (m 79 v3)) + v5) ∧ 0 ≤ (9 * (m 79 v3)) + v5 ∧ ((9 * (m 79 v3)) + v5) < 72))) ∧ (((¬ (v6 ≤ (m 63 50)) ∨ ((m 99 ((9 * (m 79 v3)) + v5)) = 0)) → J227 m) ∧ (¬ (¬ (v6 ≤ (m 63 50)) ∨ ((m 99 ((9 * (m 79 v3)) + v5)) = 0)) → (gh_i (405 * v3) ∧ gh_i (81 * v4) ∧ gh_i ((405 * v3) + (81 * v4)) ∧ gh_i (9 * v5) ∧ gh_i (((405 * v3) + (81 * v4)) + (9 * v5)) ∧ gh_i ((((405 * v3) + (81 * v4)) + (9 * v5)) + v6)) ∧ 0 ≤ ((((405 * v3) + (81 * v4)) + (9 * v5)) + v6) ∧ (((((405 * v3) + (81 * v4)) + (9 * v5)) + v6)) < 8100 ∧ ∃ J221 : gh_M → Prop, (∀ (m : gh_M), J221 m → gh_i (v6 + 1) ∧ K126 (v6 + 1) m) ∧ (((m 98 (((((405 * v3) + (81 * v4)) + (9 * v5)) + v6))) = 0 → J221 m) ∧ (¬ ((m 98 (((((405 * v3) + (81 * v4)) + (9 * v5)) + v6))) = 0) → 0 ≤ v2 ∧ v2 < 80 ∧ gh_i ((-1) - (m 81 v2)) ∧ 0 ≤ v3 ∧ v3 < 20 ∧ gh_i (9 * (m 79 v3)) ∧ gh_i ((9 * (m 79 v3)) + v5) ∧ 0 ≤ (9 * (m 79 v3)) + v5 ∧ ((9 * (m 79 v3)) + v5) < 72 ∧ ((¬ ((m 100 ((9 * (m 79 v3)) + v5)) = 0) → (0 ≤ v3 ∧ v3 < 20))) ∧ w_Model_stand ((-1) - (m 81 v2)) v6 (if (¬ ((m 100 ((9 * (m 79 v3)) + v5)) = 0) ∧ (¬ ((m 83 v3) = 0))) then (1:Int) else 0) m (fun _ m3727 => J221 m3727)))))
def f_Model_findStanding_93 (v1 : Int) (v2 : Int) (v3 : Int) (v4 : Int) (K71 : Int → gh_M → Prop) (K93 : Int → gh_M → Prop) (v5 : Int) (m : gh_M) : Prop := ∃ J233 : gh_M → Prop, (∀ (m : gh_M), J233 m → gh_i (v2 + 1) ∧ K71 (v2 + 1) m) ∧ (((v5 ≤ (m 63 50)) → (0 ≤ v3 ∧ v3 < 20 ∧ ((v4 < (m 80 v3)) → (0 ≤ v2 ∧ v2 < 80))))) ∧ ((((v5 ≤ (m 63 50)) ∧ ((v4 < (m 80 v3)) ∧ ((m 81 v2) < 0))) → gh_M1 (fun K126 v6 m => f_Model_findStanding_126 v1 v2 v3 v4 v5 K93 K126 v6 m) v5 m) ∧ (¬ ((v5 ≤ (m 63 50)) ∧ ((v4 < (m 80 v3)) ∧ ((m 81 v2) < 0))) → J233 m))
def f_Model_findStanding_71 (v1 : Int) (K58 : Int → gh_M → Prop) (K71 : Int → gh_M → Prop) (v2 : Int) (m : gh_M) : Prop := gh_i (4 * (m 63 27)) ∧ ((v2 < (4 * (m 63 27)) → 0 ≤ v2 ∧ ∀ v3 : Int, v3 = v2 / 4 → 0 ≤ v2 ∧ ∀ v4 : Int, v4 = v2 % 4 → gh_M1 (fun K93 v5 m => f_Model_findStanding_93 v1 v2 v3 v4 K71 K93 v5 m) 0 m) ∧ (¬ (v2 < (4 * (m 63 27))) → gh_i (v1 + 1) ∧ K58 (v1 + 1) m))
def f_Model_findStanding_58 (Q : Int → gh_M → Prop) (K58 : Int → gh_M → Prop) (v1 : Int) (m : gh_M) : Prop := gh_i (9 * (m 63 26)) ∧ ((v1 < (9 * (m 63 26)) → gh_M1 (fun K71 v2 m => f_Model_findStanding_71 v1 K58 K71 v2 m) 0 m) ∧ (¬ (v1 < (9 * (m 63 26))) → Q 0 m))
def f_Model_findStanding_2 (Q : Int → gh_M → Prop) (K2 : Int → gh_M → Prop) (v1 : Int) (m : gh_M) : Prop := ((v1 < 72 → 0 ≤ v1 ∧ v1 < 72 ∧ 0 ≤ v1 ∧ v1 < 72 ∧ gh_i (v1 + 1) ∧ K2 (v1 + 1) (gh_u (gh_u m 99 v1 (if (v1 = 0) then (1:Int) else 0)) 100 v1 (if ((v1 = 0) ∧ ((m 82 0) < 1000000000)) then (1:Int) else 0))) ∧ (¬ (v1 < 72) → gh_M1 (fun K58 v1 m => f_Model_findStanding_58 Q K58 v1 m) 0 m))
def w_Model_findStanding (m : gh_M) (Q : Int → gh_M → Prop) : Prop := gh_M1 (fun K2 v1 m => f_Model_findStanding_2 Q K2 v1 m) 0 m
theorem b_Model_findStanding_126 {E : gh_E} {v1 : Int} {v2 : Int} {v3 : Int} {v4 : Int} {v5 : Int} {K93 : Int → gh_M → Prop} {Q : Int → gh_M → Prop} {K126 : Int → gh_M → Prop} (d : Nat) (hK93 : ∀ (v5 : Int) (m : gh_M), gh_F m → K93 v5 m → gh_T E (gh_yModel_findStanding.cls, prog_14_method_71_code, 7, false, 9) (d + 1) 93 [(0, 2, 63), (1, 0, v1), (2, 0, v2), (3, 0, v3), (4, 0, v4), (5, 0, v5)] [] m (fun r m1 => gh_F m1 ∧ Q r m1)) (hK : ∀ (v6 : Int) (m : gh_M), gh_F m → K126 v6 m → gh_T E (gh_yModel_findStanding.cls, prog_14_method_71_code, 7, false, 9) (d + 1) 126 [(0, 2, 63), (1, 0, v1), (2, 0, v2), (3, 0, v3), (4, 0, v4), (5, 0, v5), (6, 0, v6)] [] m (fun r m1 => gh_F m1 ∧ Q r m1)) (v6 : Int) (m : gh_M) (hF : gh_F m) (h : f_Model_findStanding_126 v1 v2 v3 v4 v5 K93 K126 v6 m) : gh_T E (gh_yModel_findStanding.cls, prog_14_method_71_code, 7, false, 9) (d + 1) 126 [(0, 2, 63), (1, 0, v1), (2, 0, v2), (3, 0, v3), (4, 0, v4), (5, 0, v5), (6, 0, v6)] [] m (fun r m1 => gh_F m1 ∧ Q r m1) := by
  have hK126 := hK
  unfold f_Model_findStanding_126 at h
  refine gh_iload gd_Model_findStanding_126 6 rfl ?_
  refine gh_aload_n gd_Model_findStanding_128 0 rfl (by decide) ?_
  refine gf_63_50 gd_Model_findStanding_129 gh_k1420 hF rfl ?_
  obtain ⟨J227, hJ227, h⟩ := h
  have hJ227 : ∀ (m : gh_M), gh_F m → J227 m → gh_T E (gh_yModel_findStanding.cls, prog_14_method_71_code, 7, false, 9) (d + 1) 227 [(0, 2, 63), (1, 0, v1), (2, 0, v2), (3, 0, v3), (4, 0, v4), (5, 0, v5)] [] m (fun r m1 => gh_F m1 ∧ Q r m1) := by
    intro m hF hj
    have h := hJ227 m hj
    obtain ⟨q3699, h⟩ := h
    refine gh_iinc (L2 := [(5, 0, v5 + 1), (0, 2, 63), (1, 0, v1), (2, 0, v2), (3, 0, v3), (4, 0, v4)]) gd_Model_findStanding_227 5 rfl q3699 (by decide) rfl ?_
    refine gh_goto (tgt := 93) gd_Model_findStanding_230 (by decide) ?_
    refine gh_pick (L2 := [(0, 2, 63), (1, 0, v1), (2, 0, v2), (3, 0, v3), (4, 0, v4), (5, 0, v5 + 1)]) [1, 2, 3, 4, 5, 0] rfl ?_
    exact hK93 (v5 + 1) m hF h
  obtain ⟨hk, hA, hB⟩ := h
  have k3706 : (¬ (v6 ≤ (m 63 50)) ∨ ((m 99 ((9 * (m 79 v3)) + v5)) = 0)) → gh_T E (gh_yModel_findStanding.cls, prog_14_method_71_code, 7, false, 9) (d + 1) 227 [(0, 2, 63), (1, 0, v1), (2, 0, v2), (3, 0, v3), (4, 0, v4), (5, 0, v5), (6, 0, v6)] [] m (fun r m1 => gh_F m1 ∧ Q r m1) := by
    intro c
    have h := hA c
    refine gh_pick (L2 := [(0, 2, 63), (1, 0, v1), (2, 0, v2), (3, 0, v3), (4, 0, v4), (5, 0, v5)]) [0, 1, 2, 3, 4, 5] rfl ?_
    exact hJ227 m hF h
  have k3707 : ¬ (¬ (v6 ≤ (m 63 50)) ∨ ((m 99 ((9 * (m 79 v3)) + v5)) = 0)) → gh_T E (gh_yModel_findStanding.cls, prog_14_method_71_code, 7, false, 9) (d + 1) 155 [(0, 2, 63), (1, 0, v1), (2, 0, v2), (3, 0, v3), (4, 0, v4), (5, 0, v5), (6, 0, v6)] [] m (fun r m1 => gh_F m1 ∧ Q r m1) := by
    intro c
    have h := hB c
    refine gh_aload_n gd_Model_findStanding_155 0 rfl (by decide) ?_
    refine gf_63_54 gd_Model_findStanding_156 gh_k1424 hF ?_
    refine gh_iload_n gd_Model_findStanding_159 3 rfl ?_
    refine gh_iload gd_Model_findStanding_160 4 rfl ?_
    refine gh_iload gd_Model_findStanding_162 5 rfl ?_
    refine gh_iload gd_Model_findStanding_164 6 rfl ?_
    obtain ⟨q3708, h⟩ := h
    refine cv_Model_begun (d := d) gd_Model_findStanding_166 gh_k1907 (Nat.le_of_ble_eq_true rfl) (gh_C.pe (e_Model_begun d v3 v4 v5 v6 q3708) ?_)
    obtain ⟨q3709, h⟩ := h
    obtain ⟨q3710, h⟩ := h
    refine la_98 gd_Model_findStanding_169 hF q3709 q3710 rfl ?_
    obtain ⟨J221, hJ221, h⟩ := h
    have hJ221 : ∀ (m : gh_M), gh_F m → J221 m → gh_T E (gh_yModel_findStanding.cls, prog_14_method_71_code, 7, false, 9) (d + 1) 221 [(0, 2, 63), (1, 0, v1), (2, 0, v2), (3, 0, v3), (4, 0, v4), (5, 0, v5), (6, 0, v6)] [] m (fun r m1 => gh_F m1 ∧ Q r m1) := by
      intro m hF hj
      have h := hJ221 m hj
      obtain ⟨q3711, h⟩ := h
      refine gh_iinc (L2 := [(6, 0, v6 + 1), (0, 2, 63), (1, 0, v1), (2, 0, v2), (3, 0, v3), (4, 0, v4), (5, 0, v5)]) gd_Model_findStanding_221 6 rfl q3711 (by decide) rfl ?_
      refine gh_goto (tgt := 126) gd_Model_findStanding_224 (by decide) ?_
      refine gh_pick (L2 := [(0, 2, 63), (1, 0, v1), (2, 0, v2), (3, 0, v3), (4, 0, v4), (5, 0, v5), (6, 0, v6 + 1)]) [1, 2, 3, 4, 5, 6, 0] rfl ?_
      exact hK126 (v6 + 1) m hF h
    obtain ⟨hA, hB⟩ := h
    refine gh_zeq (tgt := 221) gd_Model_findStanding_170 (by decide) (fun c3712 => ?_) (fun c3712 => ?_)
    · have h := hA c3712
      exact hJ221 m hF h
    · have h := hB c3712
      refine gh_aload_n gd_Model_findStanding_173 0 rfl (by decide) ?_
      refine gh_iconst gd_Model_findStanding_174 (gh_r0 rfl) ?_
      refine gh_aload_n gd_Model_findStanding_175 0 rfl (by decide) ?_
      refine gf_63_34 gd_Model_findStanding_176 gh_k1404 hF ?_
      refine gh_iload_n gd_Model_findStanding_179 2 rfl ?_
      obtain ⟨q3713, h⟩ := h
      obtain ⟨q3714, h⟩ := h
      refine la_81 gd_Model_findStanding_180 hF q3713 q3714 rfl ?_
      obtain ⟨q3715, h⟩ := h
      refine gh_isub gd_Model_findStanding_181 q3715 ?_
      refine gh_iload gd_Model_findStanding_182 6 rfl ?_
      refine gh_aload_n gd_Model_findStanding_184 0 rfl (by decide) ?_
      refine gf_63_56 gd_Model_findStanding_185 gh_k1426 hF ?_
      refine gh_bipush gd_Model_findStanding_188 (by decide) (gh_r0 rfl) ?_
      refine gh_aload_n gd_Model_findStanding_190 0 rfl (by decide) ?_
      refine gf_63_32 gd_Model_findStanding_191 gh_k1402 hF ?_
      refine gh_iload_n gd_Model_findStanding_194 3 rfl ?_
      obtain ⟨q3716, h⟩ := h
      obtain ⟨q3717, h⟩ := h
      refine la_79 gd_Model_findStanding_195 hF q3716 q3717 rfl ?_
      obtain ⟨q3718, h⟩ := h
      refine gh_imul gd_Model_findStanding_196 q3718 ?_
      refine gh_iload gd_Model_findStanding_197 5 rfl ?_
      obtain ⟨q3719, h⟩ := h
      refine gh_iadd gd_Model_findStanding_199 q3719 ?_
      obtain ⟨q3720, h⟩ := h
      obtain ⟨q3721, h⟩ := h
      refine la_100 gd_Model_findStanding_200 hF q3720 q3721 rfl ?_
      obtain ⟨hk, h⟩ := h
      have k3724 : ∀ x3725 : Int, x3725 = (if (¬ ((m 100 ((9 * (m 79 v3)) + v5)) = 0) ∧ (¬ ((m 83 v3) = 0))) then (1:Int) else 0) → gh_T E (gh_yModel_findStanding.cls, prog_14_method_71_code, 7, false, 9) (d + 1) 218 [(0, 2, 63), (1, 0, v1), (2, 0, v2), (3, 0, v3), (4, 0, v4), (5, 0, v5), (6, 0, v6)] [(0, x3725), (0, v6), (0, (-1) - (m 81 v2)), (2, 63)] m (fun r m1 => gh_F m1 ∧ Q r m1) := by
        rintro _ rfl
        refine cv_Model_stand (d := d) gd_Model_findStanding_218 gh_k1918 hF (Nat.le_of_ble_eq_true rfl) (gh_C.mono (s_Model_stand d ((-1) - (m 81 v2)) v6 (if (¬ ((m 100 ((9 * (m 79 v3)) + v5)) = 0) ∧ (¬ ((m 83 v3) = 0))) then (1:Int) else 0) hF h) (fun r3726 m3727 hq => ?_))
        obtain ⟨hF, h⟩ := hq
        exact hJ221 m3727 hF h
      refine gh_zeq (tgt := 217) gd_Model_findStanding_201 (by decide) (fun c3728 => ?_) (fun c3728 => ?_)
      · have hz : True := trivial
        refine gh_iconst gd_Model_findStanding_217 (gh_r0 rfl) ?_
        exact k3724 _ (if_neg (c := (¬ ((m 100 ((9 * (m 79 v3)) + v5)) = 0) ∧ (¬ ((m 83 v3) = 0)))) (fun z => z.1 c3728)).symm
      · have hz : True := trivial
        have hk := hk c3728
        refine gh_aload_n gd_Model_findStanding_204 0 rfl (by decide) ?_
        refine gf_63_36 gd_Model_findStanding_205 gh_k1406 hF ?_
        refine gh_iload_n gd_Model_findStanding_208 3 rfl ?_
        obtain ⟨q3722, hk⟩ := hk
        have q3723 := hk
        refine la_83 gd_Model_findStanding_209 hF q3722 q3723 rfl ?_
        refine gh_zeq (tgt := 217) gd_Model_findStanding_210 (by decide) (fun c3729 => ?_) (fun c3729 => ?_)
        · have hz : True := trivial
          refine gh_iconst gd_Model_findStanding_217 (gh_r0 rfl) ?_
          exact k3724 _ (if_neg (c := (¬ ((m 100 ((9 * (m 79 v3)) + v5)) = 0) ∧ (¬ ((m 83 v3) = 0)))) (fun z => (not_not_intro c3729) z.2)).symm
        · have hz : True := trivial
          refine gh_iconst gd_Model_findStanding_213 (gh_r0 rfl) ?_
          refine gh_goto (tgt := 218) gd_Model_findStanding_214 (by decide) ?_
          exact k3724 _ (if_pos (c := (¬ ((m 100 ((9 * (m 79 v3)) + v5)) = 0) ∧ (¬ ((m 83 v3) = 0)))) ⟨c3728, c3729⟩).symm
  refine gh_jgt (tgt := 227) gd_Model_findStanding_132 (by decide) (fun c3730 => ?_) (fun c3730 => ?_)
  · have hz : True := trivial
    have hk := hk c3730
    refine gh_aload_n gd_Model_findStanding_135 0 rfl (by decide) ?_
    refine gf_63_55 gd_Model_findStanding_136 gh_k1425 hF ?_
    refine gh_bipush gd_Model_findStanding_139 (by decide) (gh_r0 rfl) ?_
    refine gh_aload_n gd_Model_findStanding_141 0 rfl (by decide) ?_
    refine gf_63_32 gd_Model_findStanding_142 gh_k1402 hF ?_
    refine gh_iload_n gd_Model_findStanding_145 3 rfl ?_
    obtain ⟨q3700, hk⟩ := hk
    obtain ⟨q3701, hk⟩ := hk
    refine la_79 gd_Model_findStanding_146 hF q3700 q3701 rfl ?_
    obtain ⟨q3702, hk⟩ := hk
    refine gh_imul gd_Model_findStanding_147 q3702 ?_
    refine gh_iload gd_Model_findStanding_148 5 rfl ?_
    obtain ⟨q3703, hk⟩ := hk
    refine gh_iadd gd_Model_findStanding_150 q3703 ?_
    obtain ⟨q3704, hk⟩ := hk
    have q3705 := hk
    refine la_99 gd_Model_findStanding_151 hF q3704 q3705 rfl ?_
    refine gh_zeq (tgt := 227) gd_Model_findStanding_152 (by decide) (fun c3731 => ?_) (fun c3731 => ?_)
    · have hz : True := trivial
      exact k3706 (Or.inr c3731)
    · have hz : True := trivial
      exact k3707 (fun z => z.elim (fun w => w c3730) c3731)
  · have hz : True := trivial
    exact k3706 (Or.inl c3730)
theorem b_Model_findStanding_93 {E : gh_E} {v1 : Int} {v2 : Int} {v3 : Int} {v4 : Int} {K71 : Int → gh_M → Prop} {Q : Int → gh_M → Prop} {K93 : Int → gh_M → Prop} (d : Nat) (hK71 : ∀ (v2 : Int) (m : gh_M), gh_F m → K71 v2 m → gh_T E (gh_yModel_findStanding.cls, prog_14_method_71_code, 7, false, 9) (d + 1) 71 [(0, 2, 63), (1, 0, v1), (2, 0, v2)] [] m (fun r m1 => gh_F m1 ∧ Q r m1)) (hK : ∀ (v5 : Int) (m : gh_M), gh_F m → K93 v5 m → gh_T E (gh_yModel_findStanding.cls, prog_14_method_71_code, 7, false, 9) (d + 1) 93 [(0, 2, 63), (1, 0, v1), (2, 0, v2), (3, 0, v3), (4, 0, v4), (5, 0, v5)] [] m (fun r m1 => gh_F m1 ∧ Q r m1)) (v5 : Int) (m : gh_M) (hF : gh_F m) (h : f_Model_findStanding_93 v1 v2 v3 v4 K71 K93 v5 m) : gh_T E (gh_yModel_findStanding.cls, prog_14_method_71_code, 7, false, 9) (d + 1) 93 [(0, 2, 63), (1, 0, v1), (2, 0, v2), (3, 0, v3), (4, 0, v4), (5, 0, v5)] [] m (fun r m1 => gh_F m1 ∧ Q r m1) := by
  have hK93 := hK
  unfold f_Model_findStanding_93 at h
  refine gh_iload gd_Model_findStanding_93 5 rfl ?_
  refine gh_aload_n gd_Model_findStanding_95 0 rfl (by decide) ?_
  refine gf_63_50 gd_Model_findStanding_96 gh_k1420 hF rfl ?_
  obtain ⟨J233, hJ233, h⟩ := h
  have hJ233 : ∀ (m : gh_M), gh_F m → J233 m → gh_T E (gh_yModel_findStanding.cls, prog_14_method_71_code, 7, false, 9) (d + 1) 233 [(0, 2, 63), (1, 0, v1), (2, 0, v2)] [] m (fun r m1 => gh_F m1 ∧ Q r m1) := by
    intro m hF hj
    have h := hJ233 m hj
    obtain ⟨q3692, h⟩ := h
    refine gh_iinc (L2 := [(2, 0, v2 + 1), (0, 2, 63), (1, 0, v1)]) gd_Model_findStanding_233 2 rfl q3692 (by decide) rfl ?_
    refine gh_goto (tgt := 71) gd_Model_findStanding_236 (by decide) ?_
    refine gh_pick (L2 := [(0, 2, 63), (1, 0, v1), (2, 0, v2 + 1)]) [1, 2, 0] rfl ?_
    exact hK71 (v2 + 1) m hF h
  obtain ⟨hk, hA, hB⟩ := h
  have k3697 : ((v5 ≤ (m 63 50)) ∧ ((v4 < (m 80 v3)) ∧ ((m 81 v2) < 0))) → gh_T E (gh_yModel_findStanding.cls, prog_14_method_71_code, 7, false, 9) (d + 1) 122 [(0, 2, 63), (1, 0, v1), (2, 0, v2), (3, 0, v3), (4, 0, v4), (5, 0, v5)] [] m (fun r m1 => gh_F m1 ∧ Q r m1) := by
    intro c
    have h := hA c
    refine gh_iload gd_Model_findStanding_122 5 rfl ?_
    refine gh_istore (L2 := [(6, 0, v5), (0, 2, 63), (1, 0, v1), (2, 0, v2), (3, 0, v3), (4, 0, v4), (5, 0, v5)]) gd_Model_findStanding_124 (by decide) rfl ?_
    refine gh_pick (L2 := [(0, 2, 63), (1, 0, v1), (2, 0, v2), (3, 0, v3), (4, 0, v4), (5, 0, v5), (6, 0, v5)]) [1, 2, 3, 4, 5, 6, 0] rfl ?_
    exact gh_M1_sound (T := fun v6 m => gh_T E (gh_yModel_findStanding.cls, prog_14_method_71_code, 7, false, 9) (d + 1) 126 [(0, 2, 63), (1, 0, v1), (2, 0, v2), (3, 0, v3), (4, 0, v4), (5, 0, v5), (6, 0, v6)] [] m (fun r m1 => gh_F m1 ∧ Q r m1)) (fun _ m => gh_F m) (fun K126 v6 m hK hF h => b_Model_findStanding_126 d hK93 hK v6 m hF h) v5 m hF h
  have k3698 : ¬ ((v5 ≤ (m 63 50)) ∧ ((v4 < (m 80 v3)) ∧ ((m 81 v2) < 0))) → gh_T E (gh_yModel_findStanding.cls, prog_14_method_71_code, 7, false, 9) (d + 1) 233 [(0, 2, 63), (1, 0, v1), (2, 0, v2), (3, 0, v3), (4, 0, v4), (5, 0, v5)] [] m (fun r m1 => gh_F m1 ∧ Q r m1) := by
    intro c
    have h := hB c
    refine gh_pick (L2 := [(0, 2, 63), (1, 0, v1), (2, 0, v2)]) [0, 1, 2] rfl ?_
    exact hJ233 m hF h
  refine gh_jgt (tgt := 233) gd_Model_findStanding_99 (by decide) (fun c3732 => ?_) (fun c3732 => ?_)
  · have hz : True := trivial
    have hk := hk c3732
    refine gh_iload gd_Model_findStanding_102 4 rfl ?_
    refine gh_aload_n gd_Model_findStanding_104 0 rfl (by decide) ?_
    refine gf_63_33 gd_Model_findStanding_105 gh_k1403 hF ?_
    refine gh_iload_n gd_Model_findStanding_108 3 rfl ?_
    obtain ⟨q3693, hk⟩ := hk
    obtain ⟨q3694, hk⟩ := hk
    refine la_80 gd_Model_findStanding_109 hF q3693 q3694 rfl ?_
    refine gh_jge (tgt := 233) gd_Model_findStanding_110 (by decide) (fun c3733 => ?_) (fun c3733 => ?_)
    · have hz : True := trivial
      have hk := hk c3733
      refine gh_aload_n gd_Model_findStanding_113 0 rfl (by decide) ?_
      refine gf_63_34 gd_Model_findStanding_114 gh_k1404 hF ?_
      refine gh_iload_n gd_Model_findStanding_117 2 rfl ?_
      obtain ⟨q3695, hk⟩ := hk
      have q3696 := hk
      refine la_81 gd_Model_findStanding_118 hF q3695 q3696 rfl ?_
      refine gh_zge (tgt := 233) gd_Model_findStanding_119 (by decide) (fun c3734 => ?_) (fun c3734 => ?_)
      · have hz : True := trivial
        exact k3697 ⟨c3732, ⟨c3733, c3734⟩⟩
      · have hz : True := trivial
        exact k3698 (fun z => (fun z => c3734 z.2) z.2)
    · have hz : True := trivial
      exact k3698 (fun z => (fun z => c3733 z.1) z.2)
  · have hz : True := trivial
    exact k3698 (fun z => c3732 z.1)
theorem b_Model_findStanding_71 {E : gh_E} {v1 : Int} {K58 : Int → gh_M → Prop} {Q : Int → gh_M → Prop} {K71 : Int → gh_M → Prop} (d : Nat) (hK58 : ∀ (v1 : Int) (m : gh_M), gh_F m → K58 v1 m → gh_T E (gh_yModel_findStanding.cls, prog_14_method_71_code, 7, false, 9) (d + 1) 58 [(0, 2, 63), (1, 0, v1)] [] m (fun r m1 => gh_F m1 ∧ Q r m1)) (hK : ∀ (v2 : Int) (m : gh_M), gh_F m → K71 v2 m → gh_T E (gh_yModel_findStanding.cls, prog_14_method_71_code, 7, false, 9) (d + 1) 71 [(0, 2, 63), (1, 0, v1), (2, 0, v2)] [] m (fun r m1 => gh_F m1 ∧ Q r m1)) (v2 : Int) (m : gh_M) (hF : gh_F m) (h : f_Model_findStanding_71 v1 K58 K71 v2 m) : gh_T E (gh_yModel_findStanding.cls, prog_14_method_71_code, 7, false, 9) (d + 1) 71 [(0, 2, 63), (1, 0, v1), (2, 0, v2)] [] m (fun r m1 => gh_F m1 ∧ Q r m1) := by
  have hK71 := hK
  unfold f_Model_findStanding_71 at h
  refine gh_iload_n gd_Model_findStanding_71 2 rfl ?_
  refine gh_iconst gd_Model_findStanding_72 (gh_r0 rfl) ?_
  refine gh_aload_n gd_Model_findStanding_73 0 rfl (by decide) ?_
  refine gf_63_27 gd_Model_findStanding_74 gh_k1397 hF rfl ?_
  obtain ⟨q3688, h⟩ := h
  refine gh_imul gd_Model_findStanding_77 q3688 ?_
  obtain ⟨hA, hB⟩ := h
  refine gh_jge (tgt := 239) gd_Model_findStanding_78 (by decide) (fun c3689 => ?_) (fun c3689 => ?_)
  · have h := hA c3689
    refine gh_iload_n gd_Model_findStanding_81 2 rfl ?_
    refine gh_iconst gd_Model_findStanding_82 (gh_r0 rfl) ?_
    obtain ⟨q3690, h⟩ := h
    refine gh_idiv gd_Model_findStanding_83 q3690 (by decide) ?_
    refine gh_name (fun v3 hn => ?_)
    have h := h v3 hn
    refine gh_istore_n (L2 := [(3, 0, v3), (0, 2, 63), (1, 0, v1), (2, 0, v2)]) gd_Model_findStanding_84 (by decide) rfl ?_
    refine gh_iload_n gd_Model_findStanding_85 3 rfl ?_
    refine gh_iconst gd_Model_findStanding_86 (gh_r0 rfl) ?_
    obtain ⟨q3691, h⟩ := h
    refine gh_irem gd_Model_findStanding_87 q3691 (by decide) ?_
    refine gh_name (fun v4 hn => ?_)
    have h := h v4 hn
    refine gh_istore (L2 := [(4, 0, v4), (3, 0, v3), (0, 2, 63), (1, 0, v1), (2, 0, v2)]) gd_Model_findStanding_88 (by decide) rfl ?_
    refine gh_iconst gd_Model_findStanding_90 (gh_r0 rfl) ?_
    refine gh_istore (L2 := [(5, 0, 0), (4, 0, v4), (3, 0, v3), (0, 2, 63), (1, 0, v1), (2, 0, v2)]) gd_Model_findStanding_91 (by decide) rfl ?_
    refine gh_pick (L2 := [(0, 2, 63), (1, 0, v1), (2, 0, v2), (3, 0, v3), (4, 0, v4), (5, 0, 0)]) [3, 4, 5, 2, 1, 0] rfl ?_
    exact gh_M1_sound (T := fun v5 m => gh_T E (gh_yModel_findStanding.cls, prog_14_method_71_code, 7, false, 9) (d + 1) 93 [(0, 2, 63), (1, 0, v1), (2, 0, v2), (3, 0, v3), (4, 0, v4), (5, 0, v5)] [] m (fun r m1 => gh_F m1 ∧ Q r m1)) (fun _ m => gh_F m) (fun K93 v5 m hK hF h => b_Model_findStanding_93 d hK71 hK v5 m hF h) 0 m hF h
  · have h := hB c3689
    obtain ⟨q3735, h⟩ := h
    refine gh_iinc (L2 := [(1, 0, v1 + 1), (0, 2, 63), (2, 0, v2)]) gd_Model_findStanding_239 1 rfl q3735 (by decide) rfl ?_
    refine gh_goto (tgt := 58) gd_Model_findStanding_242 (by decide) ?_
    refine gh_pick (L2 := [(0, 2, 63), (1, 0, v1 + 1)]) [1, 0] rfl ?_
    exact hK58 (v1 + 1) m hF h
theorem b_Model_findStanding_58 {E : gh_E} {Q : Int → gh_M → Prop} {K58 : Int → gh_M → Prop} (d : Nat) (hK : ∀ (v1 : Int) (m : gh_M), gh_F m → K58 v1 m → gh_T E (gh_yModel_findStanding.cls, prog_14_method_71_code, 7, false, 9) (d + 1) 58 [(0, 2, 63), (1, 0, v1)] [] m (fun r m1 => gh_F m1 ∧ Q r m1)) (v1 : Int) (m : gh_M) (hF : gh_F m) (h : f_Model_findStanding_58 Q K58 v1 m) : gh_T E (gh_yModel_findStanding.cls, prog_14_method_71_code, 7, false, 9) (d + 1) 58 [(0, 2, 63), (1, 0, v1)] [] m (fun r m1 => gh_F m1 ∧ Q r m1) := by
  have hK58 := hK
  unfold f_Model_findStanding_58 at h
  refine gh_iload_n gd_Model_findStanding_58 1 rfl ?_
  refine gh_bipush gd_Model_findStanding_59 (by decide) (gh_r0 rfl) ?_
  refine gh_aload_n gd_Model_findStanding_61 0 rfl (by decide) ?_
  refine gf_63_26 gd_Model_findStanding_62 gh_k1396 hF rfl ?_
  obtain ⟨q3686, h⟩ := h
  refine gh_imul gd_Model_findStanding_65 q3686 ?_
  obtain ⟨hA, hB⟩ := h
  refine gh_jge (tgt := 245) gd_Model_findStanding_66 (by decide) (fun c3687 => ?_) (fun c3687 => ?_)
  · have h := hA c3687
    refine gh_iconst gd_Model_findStanding_69 (gh_r0 rfl) ?_
    refine gh_istore_n (L2 := [(2, 0, 0), (0, 2, 63), (1, 0, v1)]) gd_Model_findStanding_70 (by decide) rfl ?_
    refine gh_pick (L2 := [(0, 2, 63), (1, 0, v1), (2, 0, 0)]) [1, 2, 0] rfl ?_
    exact gh_M1_sound (T := fun v2 m => gh_T E (gh_yModel_findStanding.cls, prog_14_method_71_code, 7, false, 9) (d + 1) 71 [(0, 2, 63), (1, 0, v1), (2, 0, v2)] [] m (fun r m1 => gh_F m1 ∧ Q r m1)) (fun _ m => gh_F m) (fun K71 v2 m hK hF h => b_Model_findStanding_71 d hK58 hK v2 m hF h) 0 m hF h
  · have h := hB c3687
    exact gh_ret9 rfl gd_Model_findStanding_245 ⟨hF, h⟩
theorem b_Model_findStanding_2 {E : gh_E} {Q : Int → gh_M → Prop} {K2 : Int → gh_M → Prop} (d : Nat) (hK : ∀ (v1 : Int) (m : gh_M), gh_F m → K2 v1 m → gh_T E (gh_yModel_findStanding.cls, prog_14_method_71_code, 7, false, 9) (d + 1) 2 [(0, 2, 63), (1, 0, v1)] [] m (fun r m1 => gh_F m1 ∧ Q r m1)) (v1 : Int) (m : gh_M) (hF : gh_F m) (h : f_Model_findStanding_2 Q K2 v1 m) : gh_T E (gh_yModel_findStanding.cls, prog_14_method_71_code, 7, false, 9) (d + 1) 2 [(0, 2, 63), (1, 0, v1)] [] m (fun r m1 => gh_F m1 ∧ Q r m1) := by
  have hK2 := hK
  unfold f_Model_findStanding_2 at h
  refine gh_iload_n gd_Model_findStanding_2 1 rfl ?_
  refine gh_bipush gd_Model_findStanding_3 (by decide) (gh_r0 rfl) ?_
  obtain ⟨hA, hB⟩ := h
  refine gh_jge (tgt := 56) gd_Model_findStanding_5 (by decide) (fun c3673 => ?_) (fun c3673 => ?_)
  · have h := hA c3673
    refine gh_aload_n gd_Model_findStanding_8 0 rfl (by decide) ?_
    refine gf_63_55 gd_Model_findStanding_9 gh_k1425 hF ?_
    refine gh_iload_n gd_Model_findStanding_12 1 rfl ?_
    refine gh_iload_n gd_Model_findStanding_13 1 rfl ?_
    have k3674 : ∀ x3675 : Int, x3675 = (if (v1 = 0) then (1:Int) else 0) → gh_T E (gh_yModel_findStanding.cls, prog_14_method_71_code, 7, false, 9) (d + 1) 22 [(0, 2, 63), (1, 0, v1)] [(0, x3675), (0, v1), (2, 99)] m (fun r m1 => gh_F m1 ∧ Q r m1) := by
      rintro _ rfl
      obtain ⟨q3676, h⟩ := h
      obtain ⟨q3677, h⟩ := h
      refine sa_99 gd_Model_findStanding_22 hF q3676 q3677 gh_ib01 (fun hF => ?_)
      refine gh_aload_n gd_Model_findStanding_23 0 rfl (by decide) ?_
      refine gf_63_56 gd_Model_findStanding_24 gh_k1426 hF ?_
      refine gh_iload_n gd_Model_findStanding_27 1 rfl ?_
      refine gh_iload_n gd_Model_findStanding_28 1 rfl ?_
      have k3678 : ∀ x3679 : Int, x3679 = (if ((v1 = 0) ∧ ((m 82 0) < 1000000000)) then (1:Int) else 0) → gh_T E (gh_yModel_findStanding.cls, prog_14_method_71_code, 7, false, 9) (d + 1) 49 [(0, 2, 63), (1, 0, v1)] [(0, x3679), (0, v1), (2, 100)] (gh_u m 99 v1 (if (v1 = 0) then (1:Int) else 0)) (fun r m1 => gh_F m1 ∧ Q r m1) := by
        rintro _ rfl
        obtain ⟨q3680, h⟩ := h
        obtain ⟨q3681, h⟩ := h
        refine sa_100 gd_Model_findStanding_49 hF q3680 q3681 gh_ib01 (fun hF => ?_)
        obtain ⟨q3682, h⟩ := h
        refine gh_iinc (L2 := [(1, 0, v1 + 1), (0, 2, 63)]) gd_Model_findStanding_50 1 rfl q3682 (by decide) rfl ?_
        refine gh_goto (tgt := 2) gd_Model_findStanding_53 (by decide) ?_
        refine gh_pick (L2 := [(0, 2, 63), (1, 0, v1 + 1)]) [1, 0] rfl ?_
        exact hK2 (v1 + 1) (gh_u (gh_u m 99 v1 (if (v1 = 0) then (1:Int) else 0)) 100 v1 (if ((v1 = 0) ∧ ((m 82 0) < 1000000000)) then (1:Int) else 0)) hF h
      refine gh_zne (tgt := 48) gd_Model_findStanding_29 (by decide) (fun c3683 => ?_) (fun c3683 => ?_)
      · have hz : True := trivial
        refine gh_aload_n gd_Model_findStanding_32 0 rfl (by decide) ?_
        refine gf_63_35 gd_Model_findStanding_33 gh_k1405 hF ?_
        refine gh_iconst gd_Model_findStanding_36 (gh_r0 rfl) ?_
        refine la_82 gd_Model_findStanding_37 hF (by decide) (by decide) (gh_u_a (by decide)) ?_
        refine gh_ldcw (n := 1000000000) gd_Model_findStanding_38 gh_k1744 (by decide) (gh_r0 rfl) ?_
        refine gh_jge (tgt := 48) gd_Model_findStanding_41 (by decide) (fun c3684 => ?_) (fun c3684 => ?_)
        · have hz : True := trivial
          refine gh_iconst gd_Model_findStanding_44 (gh_r0 rfl) ?_
          refine gh_goto (tgt := 49) gd_Model_findStanding_45 (by decide) ?_
          exact k3678 _ (if_pos (c := ((v1 = 0) ∧ ((m 82 0) < 1000000000))) ⟨c3683, c3684⟩).symm
        · have hz : True := trivial
          refine gh_iconst gd_Model_findStanding_48 (gh_r0 rfl) ?_
          exact k3678 _ (if_neg (c := ((v1 = 0) ∧ ((m 82 0) < 1000000000))) (fun z => c3684 z.2)).symm
      · have hz : True := trivial
        refine gh_iconst gd_Model_findStanding_48 (gh_r0 rfl) ?_
        exact k3678 _ (if_neg (c := ((v1 = 0) ∧ ((m 82 0) < 1000000000))) (fun z => c3683 z.1)).symm
    refine gh_zne (tgt := 21) gd_Model_findStanding_14 (by decide) (fun c3685 => ?_) (fun c3685 => ?_)
    · have hz : True := trivial
      refine gh_iconst gd_Model_findStanding_17 (gh_r0 rfl) ?_
      refine gh_goto (tgt := 22) gd_Model_findStanding_18 (by decide) ?_
      exact k3674 _ (if_pos (c := (v1 = 0)) c3685).symm
    · have hz : True := trivial
      refine gh_iconst gd_Model_findStanding_21 (gh_r0 rfl) ?_
      exact k3674 _ (if_neg (c := (v1 = 0)) c3685).symm
  · have h := hB c3673
    refine gh_iconst gd_Model_findStanding_56 (gh_r0 rfl) ?_
    refine gh_istore_n (L2 := [(1, 0, 0), (0, 2, 63)]) gd_Model_findStanding_57 (by decide) rfl ?_
    refine gh_pick (L2 := [(0, 2, 63), (1, 0, 0)]) [1, 0] rfl ?_
    exact gh_M1_sound (T := fun v1 m => gh_T E (gh_yModel_findStanding.cls, prog_14_method_71_code, 7, false, 9) (d + 1) 58 [(0, 2, 63), (1, 0, v1)] [] m (fun r m1 => gh_F m1 ∧ Q r m1)) (fun _ m => gh_F m) (fun K58 v1 m hK hF h => b_Model_findStanding_58 d hK v1 m hF h) 0 m hF h
theorem s_Model_findStanding {E : gh_E} {m : gh_M} {Q : Int → gh_M → Prop} (d : Nat) (hF : gh_F m) (h : w_Model_findStanding m Q) : gh_C E gh_yModel_findStanding prog_14_method_71_code 7 none 9 (d + 1) [(2, 63)] m (fun r m1 => gh_F m1 ∧ Q r m1) := by
  refine gh_enter2 (L := [(0, 2, 63)]) (by decide +kernel) gh_rt9 (Nat.le_of_ble_eq_true rfl) rfl rfl ?_
  unfold w_Model_findStanding at h
  refine gh_iconst gd_Model_findStanding_0 (gh_r0 rfl) ?_
  refine gh_istore_n (L2 := [(1, 0, 0), (0, 2, 63)]) gd_Model_findStanding_1 (by decide) rfl ?_
  refine gh_pick (L2 := [(0, 2, 63), (1, 0, 0)]) [1, 0] rfl ?_
  exact gh_M1_sound (T := fun v1 m => gh_T E (gh_yModel_findStanding.cls, prog_14_method_71_code, 7, false, 9) (d + 1) 2 [(0, 2, 63), (1, 0, v1)] [] m (fun r m1 => gh_F m1 ∧ Q r m1)) (fun _ m => gh_F m) (fun K2 v1 m hK hF h => b_Model_findStanding_2 d hK v1 m hF h) 0 m hF h
def f_Model_lay_106 (K98 : Int → gh_M → Prop) (K106 : Int → Int → gh_M → Prop) (v1 : Int) (v2 : Int) (m : gh_M) : Prop := ((v2 < (m 63 27) → w_Model_goesOn v2 m (fun r3759 m3760 => ∀ v1' : Int, v1' = (if (¬ (r3759 = 0) ∨ (¬ (v1 = 0))) then (1:Int) else 0) → gh_i (v2 + 1) ∧ K106 v1' (v2 + 1) m3760)) ∧ (¬ (v2 < (m 63 27)) → K98 v1 m))
def f_Model_lay_98 (Q : Int → gh_M → Prop) (K98 : Int → gh_M → Prop) (v1 : Int) (m : gh_M) : Prop := ((v1 = 0 → w_Model_findStanding m (fun _ m3757 => Q 0 m3757)) ∧ (¬ (v1 = 0) → gh_M2 (fun K106 v1 v2 m => f_Model_lay_106 K98 K106 v1 v2 m) 0 0 m))
def f_Model_lay_37 (Q : Int → gh_M → Prop) (K37 : Int → gh_M → Prop) (v1 : Int) (m : gh_M) : Prop := ((v1 < 8100 → 0 ≤ v1 ∧ ((((v1 % 405) < 81) → (0 ≤ v1 ∧ 0 ≤ v1 % 81 ∧ 0 ≤ v1 ∧ ((((v1 % 81) / 9) = (v1 % 9)) → (0 ≤ v1))))) ∧ 0 ≤ v1 ∧ v1 < 8100 ∧ gh_i (v1 + 1) ∧ K37 (v1 + 1) (gh_u m 98 v1 (if (((v1 % 405) < 81) ∧ ((((v1 % 81) / 9) = (v1 % 9)) ∧ ((v1 % 9) ≤ (m 63 50)))) then (1:Int) else 0))) ∧ (¬ (v1 < 8100) → gh_M1 (fun K98 v1 m => f_Model_lay_98 Q K98 v1 m) 1 m))
def f_Model_lay_15 (Q : Int → gh_M → Prop) (K15 : Int → gh_M → Prop) (v1 : Int) (m : gh_M) : Prop := ((v1 < 648 → 0 ≤ v1 ∧ v1 < 648 ∧ gh_i (v1 + 1) ∧ K15 (v1 + 1) (gh_u m 97 v1 0)) ∧ (¬ (v1 < 648) → gh_M1 (fun K37 v1 m => f_Model_lay_37 Q K37 v1 m) 0 m))
def w_Model_lay (m : gh_M) (Q : Int → gh_M → Prop) : Prop := (((m 63 52) = 0 → gh_M1 (fun K15 v1 m => f_Model_lay_15 Q K15 v1 m) 0 (gh_u m 63 52 1)) ∧ (¬ ((m 63 52) = 0) → Q 0 m))
theorem b_Model_lay_106 {E : gh_E} {K98 : Int → gh_M → Prop} {Q : Int → gh_M → Prop} {K106 : Int → Int → gh_M → Prop} (d : Nat) (hK98 : ∀ (v1 : Int) (m : gh_M), gh_F m → K98 v1 m → gh_T E (gh_yModel_lay.cls, prog_14_method_72_code, 3, false, 9) (d + 2) 98 [(0, 2, 63), (1, 0, v1)] [] m (fun r m1 => gh_F m1 ∧ Q r m1)) (hK : ∀ (v1 : Int) (v2 : Int) (m : gh_M), gh_F m → K106 v1 v2 m → gh_T E (gh_yModel_lay.cls, prog_14_method_72_code, 3, false, 9) (d + 2) 106 [(0, 2, 63), (1, 0, v1), (2, 0, v2)] [] m (fun r m1 => gh_F m1 ∧ Q r m1)) (v1 : Int) (v2 : Int) (m : gh_M) (hF : gh_F m) (h : f_Model_lay_106 K98 K106 v1 v2 m) : gh_T E (gh_yModel_lay.cls, prog_14_method_72_code, 3, false, 9) (d + 2) 106 [(0, 2, 63), (1, 0, v1), (2, 0, v2)] [] m (fun r m1 => gh_F m1 ∧ Q r m1) := by
  have hK106 := hK
  unfold f_Model_lay_106 at h
  refine gh_iload_n gd_Model_lay_106 2 rfl ?_
  refine gh_aload_n gd_Model_lay_107 0 rfl (by decide) ?_
  refine gf_63_27 gd_Model_lay_108 gh_k1397 hF rfl ?_
  obtain ⟨hA, hB⟩ := h
  refine gh_jge (tgt := 138) gd_Model_lay_111 (by decide) (fun c3758 => ?_) (fun c3758 => ?_)
  · have h := hA c3758
    refine gh_aload_n gd_Model_lay_114 0 rfl (by decide) ?_
    refine gh_iload_n gd_Model_lay_115 2 rfl ?_
    refine cv_Model_goesOn (d := d + 1) gd_Model_lay_116 gh_k1903 hF (Nat.le_of_ble_eq_true rfl) (gh_C.mono (s_Model_goesOn d v2 hF h) (fun r3759 m3760 hq => ?_))
    obtain ⟨hF, h⟩ := hq
    have k3761 : ∀ x3762 : Int, x3762 = (if (¬ (r3759 = 0) ∨ (¬ (v1 = 0))) then (1:Int) else 0) → gh_T E (gh_yModel_lay.cls, prog_14_method_72_code, 3, false, 9) (d + 2) 131 [(0, 2, 63), (1, 0, v1), (2, 0, v2)] [(0, x3762)] m3760 (fun r m1 => gh_F m1 ∧ Q r m1) := by
      rintro _ rfl
      refine gh_name (fun v1' hn => ?_)
      have h := h v1' hn
      refine gh_istore_n (L2 := [(1, 0, v1'), (0, 2, 63), (2, 0, v2)]) gd_Model_lay_131 (by decide) rfl ?_
      obtain ⟨q3763, h⟩ := h
      refine gh_iinc (L2 := [(2, 0, v2 + 1), (1, 0, v1'), (0, 2, 63)]) gd_Model_lay_132 2 rfl q3763 (by decide) rfl ?_
      refine gh_goto (tgt := 106) gd_Model_lay_135 (by decide) ?_
      refine gh_pick (L2 := [(0, 2, 63), (1, 0, v1'), (2, 0, v2 + 1)]) [2, 1, 0] rfl ?_
      exact hK106 v1' (v2 + 1) m3760 hF h
    refine gh_zne (tgt := 126) gd_Model_lay_119 (by decide) (fun c3764 => ?_) (fun c3764 => ?_)
    · have hz : True := trivial
      refine gh_iload_n gd_Model_lay_122 1 rfl ?_
      refine gh_zeq (tgt := 130) gd_Model_lay_123 (by decide) (fun c3765 => ?_) (fun c3765 => ?_)
      · have hz : True := trivial
        refine gh_iconst gd_Model_lay_130 (gh_r0 rfl) ?_
        exact k3761 _ (if_neg (c := (¬ (r3759 = 0) ∨ (¬ (v1 = 0)))) (fun z => z.elim (fun w => w c3764) (not_not_intro c3765))).symm
      · have hz : True := trivial
        refine gh_iconst gd_Model_lay_126 (gh_r0 rfl) ?_
        refine gh_goto (tgt := 131) gd_Model_lay_127 (by decide) ?_
        exact k3761 _ (if_pos (c := (¬ (r3759 = 0) ∨ (¬ (v1 = 0)))) (Or.inr c3765)).symm
    · have hz : True := trivial
      refine gh_iconst gd_Model_lay_126 (gh_r0 rfl) ?_
      refine gh_goto (tgt := 131) gd_Model_lay_127 (by decide) ?_
      exact k3761 _ (if_pos (c := (¬ (r3759 = 0) ∨ (¬ (v1 = 0)))) (Or.inl c3764)).symm
  · have h := hB c3758
    refine gh_goto (tgt := 98) gd_Model_lay_138 (by decide) ?_
    refine gh_pick (L2 := [(0, 2, 63), (1, 0, v1)]) [0, 1] rfl ?_
    exact hK98 v1 m hF h
theorem b_Model_lay_98 {E : gh_E} {Q : Int → gh_M → Prop} {K98 : Int → gh_M → Prop} (d : Nat) (hK : ∀ (v1 : Int) (m : gh_M), gh_F m → K98 v1 m → gh_T E (gh_yModel_lay.cls, prog_14_method_72_code, 3, false, 9) (d + 2) 98 [(0, 2, 63), (1, 0, v1)] [] m (fun r m1 => gh_F m1 ∧ Q r m1)) (v1 : Int) (m : gh_M) (hF : gh_F m) (h : f_Model_lay_98 Q K98 v1 m) : gh_T E (gh_yModel_lay.cls, prog_14_method_72_code, 3, false, 9) (d + 2) 98 [(0, 2, 63), (1, 0, v1)] [] m (fun r m1 => gh_F m1 ∧ Q r m1) := by
  have hK98 := hK
  unfold f_Model_lay_98 at h
  refine gh_iload_n gd_Model_lay_98 1 rfl ?_
  obtain ⟨hA, hB⟩ := h
  refine gh_zeq (tgt := 141) gd_Model_lay_99 (by decide) (fun c3755 => ?_) (fun c3755 => ?_)
  · have h := hA c3755
    refine gh_aload_n gd_Model_lay_141 0 rfl (by decide) ?_
    refine cv_Model_findStanding (d := d + 1) gd_Model_lay_142 gh_k1914 hF (Nat.le_of_ble_eq_true rfl) (gh_C.mono (s_Model_findStanding d hF h) (fun r3756 m3757 hq => ?_))
    obtain ⟨hF, h⟩ := hq
    exact gh_ret9 rfl gd_Model_lay_145 ⟨hF, h⟩
  · have h := hB c3755
    refine gh_iconst gd_Model_lay_102 (gh_r0 rfl) ?_
    refine gh_istore_n (L2 := [(1, 0, 0), (0, 2, 63)]) gd_Model_lay_103 (by decide) rfl ?_
    refine gh_iconst gd_Model_lay_104 (gh_r0 rfl) ?_
    refine gh_istore_n (L2 := [(2, 0, 0), (1, 0, 0), (0, 2, 63)]) gd_Model_lay_105 (by decide) rfl ?_
    refine gh_pick (L2 := [(0, 2, 63), (1, 0, 0), (2, 0, 0)]) [2, 1, 0] rfl ?_
    exact gh_M2_sound (T := fun v1 v2 m => gh_T E (gh_yModel_lay.cls, prog_14_method_72_code, 3, false, 9) (d + 2) 106 [(0, 2, 63), (1, 0, v1), (2, 0, v2)] [] m (fun r m1 => gh_F m1 ∧ Q r m1)) (fun _ _ m => gh_F m) (fun K106 v1 v2 m hK hF h => b_Model_lay_106 d hK98 hK v1 v2 m hF h) 0 0 m hF h
theorem b_Model_lay_37 {E : gh_E} {Q : Int → gh_M → Prop} {K37 : Int → gh_M → Prop} (d : Nat) (hK : ∀ (v1 : Int) (m : gh_M), gh_F m → K37 v1 m → gh_T E (gh_yModel_lay.cls, prog_14_method_72_code, 3, false, 9) (d + 2) 37 [(0, 2, 63), (1, 0, v1)] [] m (fun r m1 => gh_F m1 ∧ Q r m1)) (v1 : Int) (m : gh_M) (hF : gh_F m) (h : f_Model_lay_37 Q K37 v1 m) : gh_T E (gh_yModel_lay.cls, prog_14_method_72_code, 3, false, 9) (d + 2) 37 [(0, 2, 63), (1, 0, v1)] [] m (fun r m1 => gh_F m1 ∧ Q r m1) := by
  have hK37 := hK
  unfold f_Model_lay_37 at h
  refine gh_iload_n gd_Model_lay_37 1 rfl ?_
  refine gh_sipush gd_Model_lay_38 (by decide) (gh_r0 rfl) ?_
  obtain ⟨hA, hB⟩ := h
  refine gh_jge (tgt := 96) gd_Model_lay_41 (by decide) (fun c3741 => ?_) (fun c3741 => ?_)
  · have h := hA c3741
    refine gh_aload_n gd_Model_lay_44 0 rfl (by decide) ?_
    refine gf_63_54 gd_Model_lay_45 gh_k1424 hF ?_
    refine gh_iload_n gd_Model_lay_48 1 rfl ?_
    refine gh_iload_n gd_Model_lay_49 1 rfl ?_
    refine gh_sipush gd_Model_lay_50 (by decide) (gh_r0 rfl) ?_
    obtain ⟨q3742, h⟩ := h
    refine gh_irem gd_Model_lay_53 q3742 (by decide) ?_
    refine gh_bipush gd_Model_lay_54 (by decide) (gh_r0 rfl) ?_
    obtain ⟨hk, h⟩ := h
    have k3747 : ∀ x3748 : Int, x3748 = (if (((v1 % 405) < 81) ∧ ((((v1 % 81) / 9) = (v1 % 9)) ∧ ((v1 % 9) ≤ (m 63 50)))) then (1:Int) else 0) → gh_T E (gh_yModel_lay.cls, prog_14_method_72_code, 3, false, 9) (d + 2) 89 [(0, 2, 63), (1, 0, v1)] [(0, x3748), (0, v1), (2, 98)] m (fun r m1 => gh_F m1 ∧ Q r m1) := by
      rintro _ rfl
      obtain ⟨q3749, h⟩ := h
      obtain ⟨q3750, h⟩ := h
      refine sa_98 gd_Model_lay_89 hF q3749 q3750 gh_ib01 (fun hF => ?_)
      obtain ⟨q3751, h⟩ := h
      refine gh_iinc (L2 := [(1, 0, v1 + 1), (0, 2, 63)]) gd_Model_lay_90 1 rfl q3751 (by decide) rfl ?_
      refine gh_goto (tgt := 37) gd_Model_lay_93 (by decide) ?_
      refine gh_pick (L2 := [(0, 2, 63), (1, 0, v1 + 1)]) [1, 0] rfl ?_
      exact hK37 (v1 + 1) (gh_u m 98 v1 (if (((v1 % 405) < 81) ∧ ((((v1 % 81) / 9) = (v1 % 9)) ∧ ((v1 % 9) ≤ (m 63 50)))) then (1:Int) else 0)) hF h
    refine gh_jge (tgt := 88) gd_Model_lay_56 (by decide) (fun c3752 => ?_) (fun c3752 => ?_)
    · have hz : True := trivial
      have hk := hk c3752
      refine gh_iload_n gd_Model_lay_59 1 rfl ?_
      refine gh_bipush gd_Model_lay_60 (by decide) (gh_r0 rfl) ?_
      obtain ⟨q3743, hk⟩ := hk
      refine gh_irem gd_Model_lay_62 q3743 (by decide) ?_
      refine gh_bipush gd_Model_lay_63 (by decide) (gh_r0 rfl) ?_
      obtain ⟨q3744, hk⟩ := hk
      refine gh_idiv gd_Model_lay_65 q3744 (by decide) ?_
      refine gh_iload_n gd_Model_lay_66 1 rfl ?_
      refine gh_bipush gd_Model_lay_67 (by decide) (gh_r0 rfl) ?_
      obtain ⟨q3745, hk⟩ := hk
      refine gh_irem gd_Model_lay_69 q3745 (by decide) ?_
      refine gh_jne (tgt := 88) gd_Model_lay_70 (by decide) (fun c3753 => ?_) (fun c3753 => ?_)
      · have hz : True := trivial
        have hk := hk c3753
        refine gh_iload_n gd_Model_lay_73 1 rfl ?_
        refine gh_bipush gd_Model_lay_74 (by decide) (gh_r0 rfl) ?_
        have q3746 := hk
        refine gh_irem gd_Model_lay_76 q3746 (by decide) ?_
        refine gh_aload_n gd_Model_lay_77 0 rfl (by decide) ?_
        refine gf_63_50 gd_Model_lay_78 gh_k1420 hF rfl ?_
        refine gh_jgt (tgt := 88) gd_Model_lay_81 (by decide) (fun c3754 => ?_) (fun c3754 => ?_)
        · have hz : True := trivial
          refine gh_iconst gd_Model_lay_84 (gh_r0 rfl) ?_
          refine gh_goto (tgt := 89) gd_Model_lay_85 (by decide) ?_
          exact k3747 _ (if_pos (c := (((v1 % 405) < 81) ∧ ((((v1 % 81) / 9) = (v1 % 9)) ∧ ((v1 % 9) ≤ (m 63 50))))) ⟨c3752, ⟨c3753, c3754⟩⟩).symm
        · have hz : True := trivial
          refine gh_iconst gd_Model_lay_88 (gh_r0 rfl) ?_
          exact k3747 _ (if_neg (c := (((v1 % 405) < 81) ∧ ((((v1 % 81) / 9) = (v1 % 9)) ∧ ((v1 % 9) ≤ (m 63 50))))) (fun z => (fun z => c3754 z.2) z.2)).symm
      · have hz : True := trivial
        refine gh_iconst gd_Model_lay_88 (gh_r0 rfl) ?_
        exact k3747 _ (if_neg (c := (((v1 % 405) < 81) ∧ ((((v1 % 81) / 9) = (v1 % 9)) ∧ ((v1 % 9) ≤ (m 63 50))))) (fun z => (fun z => c3753 z.1) z.2)).symm
    · have hz : True := trivial
      refine gh_iconst gd_Model_lay_88 (gh_r0 rfl) ?_
      exact k3747 _ (if_neg (c := (((v1 % 405) < 81) ∧ ((((v1 % 81) / 9) = (v1 % 9)) ∧ ((v1 % 9) ≤ (m 63 50))))) (fun z => c3752 z.1)).symm
  · have h := hB c3741
    refine gh_iconst gd_Model_lay_96 (gh_r0 rfl) ?_
    refine gh_istore_n (L2 := [(1, 0, 1), (0, 2, 63)]) gd_Model_lay_97 (by decide) rfl ?_
    refine gh_pick (L2 := [(0, 2, 63), (1, 0, 1)]) [1, 0] rfl ?_
    exact gh_M1_sound (T := fun v1 m => gh_T E (gh_yModel_lay.cls, prog_14_method_72_code, 3, false, 9) (d + 2) 98 [(0, 2, 63), (1, 0, v1)] [] m (fun r m1 => gh_F m1 ∧ Q r m1)) (fun _ m => gh_F m) (fun K98 v1 m hK hF h => b_Model_lay_98 d hK v1 m hF h) 1 m hF h
theorem b_Model_lay_15 {E : gh_E} {Q : Int → gh_M → Prop} {K15 : Int → gh_M → Prop} (d : Nat) (hK : ∀ (v1 : Int) (m : gh_M), gh_F m → K15 v1 m → gh_T E (gh_yModel_lay.cls, prog_14_method_72_code, 3, false, 9) (d + 2) 15 [(0, 2, 63), (1, 0, v1)] [] m (fun r m1 => gh_F m1 ∧ Q r m1)) (v1 : Int) (m : gh_M) (hF : gh_F m) (h : f_Model_lay_15 Q K15 v1 m) : gh_T E (gh_yModel_lay.cls, prog_14_method_72_code, 3, false, 9) (d + 2) 15 [(0, 2, 63), (1, 0, v1)] [] m (fun r m1 => gh_F m1 ∧ Q r m1) := by
  have hK15 := hK
  unfold f_Model_lay_15 at h
  refine gh_iload_n gd_Model_lay_15 1 rfl ?_
  refine gh_sipush gd_Model_lay_16 (by decide) (gh_r0 rfl) ?_
  obtain ⟨hA, hB⟩ := h
  refine gh_jge (tgt := 35) gd_Model_lay_19 (by decide) (fun c3737 => ?_) (fun c3737 => ?_)
  · have h := hA c3737
    refine gh_aload_n gd_Model_lay_22 0 rfl (by decide) ?_
    refine gf_63_53 gd_Model_lay_23 gh_k1423 hF ?_
    refine gh_iload_n gd_Model_lay_26 1 rfl ?_
    refine gh_iconst gd_Model_lay_27 (gh_r0 rfl) ?_
    obtain ⟨q3738, h⟩ := h
    obtain ⟨q3739, h⟩ := h
    refine sa_97 gd_Model_lay_28 hF q3738 q3739 (by decide) (fun hF => ?_)
    obtain ⟨q3740, h⟩ := h
    refine gh_iinc (L2 := [(1, 0, v1 + 1), (0, 2, 63)]) gd_Model_lay_29 1 rfl q3740 (by decide) rfl ?_
    refine gh_goto (tgt := 15) gd_Model_lay_32 (by decide) ?_
    refine gh_pick (L2 := [(0, 2, 63), (1, 0, v1 + 1)]) [1, 0] rfl ?_
    exact hK15 (v1 + 1) (gh_u m 97 v1 0) hF h
  · have h := hB c3737
    refine gh_iconst gd_Model_lay_35 (gh_r0 rfl) ?_
    refine gh_istore_n (L2 := [(1, 0, 0), (0, 2, 63)]) gd_Model_lay_36 (by decide) rfl ?_
    refine gh_pick (L2 := [(0, 2, 63), (1, 0, 0)]) [1, 0] rfl ?_
    exact gh_M1_sound (T := fun v1 m => gh_T E (gh_yModel_lay.cls, prog_14_method_72_code, 3, false, 9) (d + 2) 37 [(0, 2, 63), (1, 0, v1)] [] m (fun r m1 => gh_F m1 ∧ Q r m1)) (fun _ m => gh_F m) (fun K37 v1 m hK hF h => b_Model_lay_37 d hK v1 m hF h) 0 m hF h
theorem s_Model_lay {E : gh_E} {m : gh_M} {Q : Int → gh_M → Prop} (d : Nat) (hF : gh_F m) (h : w_Model_lay m Q) : gh_C E gh_yModel_lay prog_14_method_72_code 3 none 9 (d + 2) [(2, 63)] m (fun r m1 => gh_F m1 ∧ Q r m1) := by
  refine gh_enter2 (L := [(0, 2, 63)]) (by decide +kernel) gh_rt9 (Nat.le_of_ble_eq_true rfl) rfl rfl ?_
  unfold w_Model_lay at h
  refine gh_aload_n gd_Model_lay_0 0 rfl (by decide) ?_
  refine gf_63_52 gd_Model_lay_1 gh_k1422 hF rfl ?_
  obtain ⟨hA, hB⟩ := h
  refine gh_zeq (tgt := 8) gd_Model_lay_4 (by decide) (fun c3736 => ?_) (fun c3736 => ?_)
  · have h := hA c3736
    refine gh_aload_n gd_Model_lay_8 0 rfl (by decide) ?_
    refine gh_iconst gd_Model_lay_9 (gh_r0 rfl) ?_
    refine pf_63_52 gd_Model_lay_10 gh_k1422 hF (by decide) (fun hF => ?_)
    refine gh_iconst gd_Model_lay_13 (gh_r0 rfl) ?_
    refine gh_istore_n (L2 := [(1, 0, 0), (0, 2, 63)]) gd_Model_lay_14 (by decide) rfl ?_
    refine gh_pick (L2 := [(0, 2, 63), (1, 0, 0)]) [1, 0] rfl ?_
    exact gh_M1_sound (T := fun v1 m => gh_T E (gh_yModel_lay.cls, prog_14_method_72_code, 3, false, 9) (d + 2) 15 [(0, 2, 63), (1, 0, v1)] [] m (fun r m1 => gh_F m1 ∧ Q r m1)) (fun _ m => gh_F m) (fun K15 v1 m hK hF h => b_Model_lay_15 d hK v1 m hF h) 0 (gh_u m 63 52 1) hF h
  · have h := hB c3736
    exact gh_ret9 rfl gd_Model_lay_7 ⟨hF, h⟩
def w_Model_accepts (v1 : Int) (m : gh_M) (Q : Int → gh_M → Prop) : Prop := ∃ J15 : Prop, (J15 → Q (if (m 63 24) = 0 then (-1003) else (-1001)) m) ∧ (((¬ ((m 63 24) = 0) ∧ (p_Model_isPlace v1 m)) → w_Model_lay m (fun _ m3772 => 0 ≤ v1 ∧ v1 < 648 ∧ Q (if p_Model_bit (m3772 97 v1) then (1:Int) else 0) m3772)) ∧ (¬ (¬ ((m 63 24) = 0) ∧ (p_Model_isPlace v1 m)) → J15))
theorem s_Model_accepts {E : gh_E} {m : gh_M} {Q : Int → gh_M → Prop} (d : Nat) (v1 : Int) (hF : gh_F m) (h : w_Model_accepts v1 m Q) : gh_C E gh_yModel_accepts prog_14_method_76_code 2 (some .int) 0 (d + 3) [(2, 63), (0, v1)] m (fun r m1 => gh_F m1 ∧ Q r m1) := by
  refine gh_enter2 (L := [(0, 2, 63), (1, 0, v1)]) (by decide +kernel) gh_rt0 (Nat.le_of_ble_eq_true rfl) rfl rfl ?_
  unfold w_Model_accepts at h
  refine gh_aload_n gd_Model_accepts_0 0 rfl (by decide) ?_
  refine gf_63_24 gd_Model_accepts_1 gh_k1394 hF rfl ?_
  obtain ⟨J15, hJ15, h⟩ := h
  have hJ15 : gh_F m → J15 → gh_T E (gh_yModel_accepts.cls, prog_14_method_76_code, 2, false, 0) (d + 3) 15 [(0, 2, 63)] [] m (fun r m1 => gh_F m1 ∧ Q r m1) := by
    intro hF hj
    have h := hJ15 hj
    refine gh_aload_n gd_Model_accepts_15 0 rfl (by decide) ?_
    refine gf_63_24 gd_Model_accepts_16 gh_k1394 hF rfl ?_
    have k3766 : ∀ x3767 : Int, x3767 = (if (m 63 24) = 0 then (-1003) else (-1001)) → gh_T E (gh_yModel_accepts.cls, prog_14_method_76_code, 2, false, 0) (d + 3) 31 [(0, 2, 63)] [(0, x3767)] m (fun r m1 => gh_F m1 ∧ Q r m1) := by
      rintro _ rfl
      exact gh_ret0 rfl gd_Model_accepts_31 ⟨hF, h⟩
    refine gh_zeq (tgt := 28) gd_Model_accepts_19 (by decide) (fun c3768 => ?_) (fun c3768 => ?_)
    · have hz : True := trivial
      refine gh_sipush gd_Model_accepts_28 (by decide) (gh_r0 rfl) ?_
      exact k3766 _ (by rw [if_pos c3768])
    · have hz : True := trivial
      refine gh_sipush gd_Model_accepts_22 (by decide) (gh_r0 rfl) ?_
      refine gh_goto (tgt := 31) gd_Model_accepts_25 (by decide) ?_
      exact k3766 _ (by rw [if_neg c3768])
  obtain ⟨hA, hB⟩ := h
  have k3769 : (¬ ((m 63 24) = 0) ∧ (p_Model_isPlace v1 m)) → gh_T E (gh_yModel_accepts.cls, prog_14_method_76_code, 2, false, 0) (d + 3) 32 [(0, 2, 63), (1, 0, v1)] [] m (fun r m1 => gh_F m1 ∧ Q r m1) := by
    intro c
    have h := hA c
    refine gh_aload_n gd_Model_accepts_32 0 rfl (by decide) ?_
    refine cv_Model_lay (d := d + 2) gd_Model_accepts_33 gh_k1899 hF (Nat.le_of_ble_eq_true rfl) (gh_C.mono (s_Model_lay d hF h) (fun r3771 m3772 hq => ?_))
    obtain ⟨hF, h⟩ := hq
    refine gh_aload_n gd_Model_accepts_36 0 rfl (by decide) ?_
    refine gf_63_53 gd_Model_accepts_37 gh_k1423 hF ?_
    refine gh_iload_n gd_Model_accepts_40 1 rfl ?_
    obtain ⟨q3773, h⟩ := h
    obtain ⟨q3774, h⟩ := h
    refine la_97 gd_Model_accepts_41 hF q3773 q3774 rfl ?_
    refine cv_Model_bit (d := d + 2) gd_Model_accepts_42 gh_k1820 (Nat.le_of_ble_eq_true rfl) (gh_C.pe (e_Model_bit (d + 2) (m3772 97 v1)) ?_)
    exact gh_ret0 rfl gd_Model_accepts_45 ⟨hF, h⟩
  have k3770 : ¬ (¬ ((m 63 24) = 0) ∧ (p_Model_isPlace v1 m)) → gh_T E (gh_yModel_accepts.cls, prog_14_method_76_code, 2, false, 0) (d + 3) 15 [(0, 2, 63), (1, 0, v1)] [] m (fun r m1 => gh_F m1 ∧ Q r m1) := by
    intro c
    have h := hB c
    refine gh_pick (L2 := [(0, 2, 63)]) [0] rfl ?_
    exact hJ15 hF h
  refine gh_zeq (tgt := 15) gd_Model_accepts_4 (by decide) (fun c3775 => ?_) (fun c3775 => ?_)
  · have hz : True := trivial
    exact k3770 (fun z => z.1 c3775)
  · have hz : True := trivial
    refine gh_aload_n gd_Model_accepts_7 0 rfl (by decide) ?_
    refine gh_iload_n gd_Model_accepts_8 1 rfl ?_
    refine cv_Model_isPlace (d := d + 2) gd_Model_accepts_9 gh_k1875 hF (Nat.le_of_ble_eq_true rfl) (gh_C.pe (e_Model_isPlace (d + 1) v1 hF) ?_)
    refine gh_bne (tgt := 32) gd_Model_accepts_12 (by decide) (fun c3776 => ?_) (fun c3776 => ?_)
    · have hz : True := trivial
      exact k3769 ⟨c3775, c3776⟩
    · have hz : True := trivial
      exact k3770 (fun z => c3776 z.2)
def f_Model_next2_73 (v1 : Int) (v3 : Int) (v4 : Int) (K55 : Int → Int → Prop) (m3783 : gh_M) (K73 : Int → Int → Prop) (v2 : Int) (v5 : Int) : Prop := ∃ J170 : Int → Prop, (∀ (v2' : Int), J170 v2' → gh_i (v3 + 1) ∧ K55 v2' (v3 + 1)) ∧ (((v5 ≤ v1) → (0 ≤ v3 ∧ 0 ≤ v4 ∧ v4 < 20 ∧ (((v3 % 4) < (m3783 80 v4)) → (0 ≤ v3 ∧ v3 < 80 ∧ (¬ ((m3783 81 v3) ≤ 0) → (0 ≤ v4 ∧ v4 < 20))))))) ∧ (((¬ (v5 ≤ v1) ∨ (¬ ((v3 % 4) < (m3783 80 v4)) ∨ (((m3783 81 v3) ≤ 0) ∨ ((m3783 83 v4) = 0)))) → J170 v2) ∧ (¬ (¬ (v5 ≤ v1) ∨ (¬ ((v3 % 4) < (m3783 80 v4)) ∨ (((m3783 81 v3) ≤ 0) ∨ ((m3783 83 v4) = 0)))) → 0 ≤ v4 ∧ v4 < 20 ∧ gh_i (9 * (m3783 79 v4)) ∧ gh_i ((9 * (m3783 79 v4)) + v5) ∧ 0 ≤ (9 * (m3783 79 v4)) + v5 ∧ ((9 * (m3783 79 v4)) + v5) < 72 ∧ ((¬ ((m3783 100 ((9 * (m3783 79 v4)) + v5)) = 0) → (0 ≤ v3 ∧ (gh_i (405 * v4) ∧ gh_i (81 * (v3 % 4)) ∧ gh_i ((405 * v4) + (81 * (v3 % 4))) ∧ gh_i (9 * v5) ∧ gh_i (((405 * v4) + (81 * (v3 % 4))) + (9 * v5)) ∧ gh_i ((((405 * v4) + (81 * (v3 % 4))) + (9 * v5)) + v1)) ∧ 0 ≤ ((((405 * v4) + (81 * (v3 % 4))) + (9 * v5)) + v1) ∧ (((((405 * v4) + (81 * (v3 % 4))) + (9 * v5)) + v1)) < 8100 ∧ (¬ ((m3783 98 (((((405 * v4) + (81 * (v3 % 4))) + (9 * v5)) + v1))) = 0) → (0 ≤ v3 ∧ v3 < 80))))) ∧ ∀ v2' : Int, v2' = gh_ior_f v2 (if (m3783 100 ((9 * (m3783 79 v4)) + v5)) = 0 then 0 else (if (m3783 98 (((((405 * v4) + (81 * (v3 % 4))) + (9 * v5)) + v1))) = 0 then 0 else (m3783 81 v3))) → gh_i (v5 + 1) ∧ K73 v2' (v5 + 1)))
def f_Model_next2_55 (v1 : Int) (Q : Int → gh_M → Prop) (m3783 : gh_M) (K55 : Int → Int → Prop) (v2 : Int) (v3 : Int) : Prop := gh_i (4 * (m3783 63 27)) ∧ ((v3 < (4 * (m3783 63 27)) → 0 ≤ v3 ∧ ∀ v4 : Int, v4 = v3 / 4 → gh_L2 (fun K73 v2 v5 => f_Model_next2_73 v1 v3 v4 K55 m3783 K73 v2 v5) v2 0) ∧ (¬ (v3 < (4 * (m3783 63 27))) → Q v2 m3783))
def w_Model_next2 (v1 : Int) (m : gh_M) (Q : Int → gh_M → Prop) : Prop := ∃ J15 : Prop, (J15 → Q (if (m 63 24) = 0 then (-1003) else (-1001)) m) ∧ (((¬ ((m 63 24) = 0) ∧ (p_Model_isPlace v1 m)) → w_Model_lay m (fun _ m3783 => 0 ≤ v1 ∧ v1 < 648 ∧ ∀ v2 : Int, v2 = (if (m3783 97 v1) = 0 then 0 else 67108864) → gh_L2 (fun K55 v2 v3 => f_Model_next2_55 v1 Q m3783 K55 v2 v3) v2 0)) ∧ (¬ (¬ ((m 63 24) = 0) ∧ (p_Model_isPlace v1 m)) → J15))
theorem b_Model_next2_73 {E : gh_E} {v1 : Int} {v3 : Int} {v4 : Int} {K55 : Int → Int → Prop} {Q : Int → gh_M → Prop} {K73 : Int → Int → Prop} (d : Nat) {m3783 : gh_M} (hK55 : ∀ (v2 : Int) (v3 : Int), gh_F m3783 → K55 v2 v3 → gh_T E (gh_yModel_next2.cls, prog_14_method_78_code, 6, false, 0) (d + 3) 55 [(0, 2, 63), (1, 0, v1), (2, 0, v2), (3, 0, v3)] [] m3783 (fun r m1 => gh_F m1 ∧ Q r m1)) (hK : ∀ (v2 : Int) (v5 : Int), gh_F m3783 → K73 v2 v5 → gh_T E (gh_yModel_next2.cls, prog_14_method_78_code, 6, false, 0) (d + 3) 73 [(0, 2, 63), (1, 0, v1), (2, 0, v2), (3, 0, v3), (4, 0, v4), (5, 0, v5)] [] m3783 (fun r m1 => gh_F m1 ∧ Q r m1)) (v2 : Int) (v5 : Int) (hF : gh_F m3783) (h : f_Model_next2_73 v1 v3 v4 K55 m3783 K73 v2 v5) : gh_T E (gh_yModel_next2.cls, prog_14_method_78_code, 6, false, 0) (d + 3) 73 [(0, 2, 63), (1, 0, v1), (2, 0, v2), (3, 0, v3), (4, 0, v4), (5, 0, v5)] [] m3783 (fun r m1 => gh_F m1 ∧ Q r m1) := by
  have hK73 := hK
  unfold f_Model_next2_73 at h
  refine gh_iload gd_Model_next2_73 5 rfl ?_
  refine gh_iload_n gd_Model_next2_75 1 rfl ?_
  obtain ⟨J170, hJ170, h⟩ := h
  have hJ170 : ∀ (v2' : Int), gh_F m3783 → J170 v2' → gh_T E (gh_yModel_next2.cls, prog_14_method_78_code, 6, false, 0) (d + 3) 170 [(0, 2, 63), (1, 0, v1), (2, 0, v2'), (3, 0, v3)] [] m3783 (fun r m1 => gh_F m1 ∧ Q r m1) := by
    intro v2' hF hj
    have h := hJ170 v2' hj
    obtain ⟨q3791, h⟩ := h
    refine gh_iinc (L2 := [(3, 0, v3 + 1), (0, 2, 63), (1, 0, v1), (2, 0, v2')]) gd_Model_next2_170 3 rfl q3791 (by decide) rfl ?_
    refine gh_goto (tgt := 55) gd_Model_next2_173 (by decide) ?_
    refine gh_pick (L2 := [(0, 2, 63), (1, 0, v1), (2, 0, v2'), (3, 0, v3 + 1)]) [1, 2, 3, 0] rfl ?_
    exact hK55 v2' (v3 + 1) hF h
  obtain ⟨hk, hA, hB⟩ := h
  have k3799 : (¬ (v5 ≤ v1) ∨ (¬ ((v3 % 4) < (m3783 80 v4)) ∨ (((m3783 81 v3) ≤ 0) ∨ ((m3783 83 v4) = 0)))) → gh_T E (gh_yModel_next2.cls, prog_14_method_78_code, 6, false, 0) (d + 3) 170 [(0, 2, 63), (1, 0, v1), (2, 0, v2), (3, 0, v3), (4, 0, v4), (5, 0, v5)] [] m3783 (fun r m1 => gh_F m1 ∧ Q r m1) := by
    intro c
    have h := hA c
    refine gh_pick (L2 := [(0, 2, 63), (1, 0, v1), (2, 0, v2), (3, 0, v3)]) [0, 1, 2, 3] rfl ?_
    exact hJ170 v2 hF h
  have k3800 : ¬ (¬ (v5 ≤ v1) ∨ (¬ ((v3 % 4) < (m3783 80 v4)) ∨ (((m3783 81 v3) ≤ 0) ∨ ((m3783 83 v4) = 0)))) → gh_T E (gh_yModel_next2.cls, prog_14_method_78_code, 6, false, 0) (d + 3) 111 [(0, 2, 63), (1, 0, v1), (2, 0, v2), (3, 0, v3), (4, 0, v4), (5, 0, v5)] [] m3783 (fun r m1 => gh_F m1 ∧ Q r m1) := by
    intro c
    have h := hB c
    refine gh_iload_n gd_Model_next2_111 2 rfl ?_
    refine gh_aload_n gd_Model_next2_112 0 rfl (by decide) ?_
    refine gf_63_56 gd_Model_next2_113 gh_k1426 hF ?_
    refine gh_bipush gd_Model_next2_116 (by decide) (gh_r0 rfl) ?_
    refine gh_aload_n gd_Model_next2_118 0 rfl (by decide) ?_
    refine gf_63_32 gd_Model_next2_119 gh_k1402 hF ?_
    refine gh_iload gd_Model_next2_122 4 rfl ?_
    obtain ⟨q3801, h⟩ := h
    obtain ⟨q3802, h⟩ := h
    refine la_79 gd_Model_next2_124 hF q3801 q3802 rfl ?_
    obtain ⟨q3803, h⟩ := h
    refine gh_imul gd_Model_next2_125 q3803 ?_
    refine gh_iload gd_Model_next2_126 5 rfl ?_
    obtain ⟨q3804, h⟩ := h
    refine gh_iadd gd_Model_next2_128 q3804 ?_
    obtain ⟨q3805, h⟩ := h
    obtain ⟨q3806, h⟩ := h
    refine la_100 gd_Model_next2_129 hF q3805 q3806 rfl ?_
    obtain ⟨hk, h⟩ := h
    have k3813 : ∀ x3814 : Int, x3814 = (if (m3783 100 ((9 * (m3783 79 v4)) + v5)) = 0 then 0 else (if (m3783 98 (((((405 * v4) + (81 * (v3 % 4))) + (9 * v5)) + v1))) = 0 then 0 else (m3783 81 v3))) → gh_T E (gh_yModel_next2.cls, prog_14_method_78_code, 6, false, 0) (d + 3) 162 [(0, 2, 63), (1, 0, v1), (2, 0, v2), (3, 0, v3), (4, 0, v4), (5, 0, v5)] [(0, x3814), (0, v2)] m3783 (fun r m1 => gh_F m1 ∧ Q r m1) := by
      rintro _ rfl
      refine gh_ior gd_Model_next2_162 ?_
      refine gh_name (fun v2' hn => ?_)
      have h := h v2' hn
      refine gh_istore_n (L2 := [(2, 0, v2'), (0, 2, 63), (1, 0, v1), (3, 0, v3), (4, 0, v4), (5, 0, v5)]) gd_Model_next2_163 (by decide) rfl ?_
      obtain ⟨q3815, h⟩ := h
      refine gh_iinc (L2 := [(5, 0, v5 + 1), (2, 0, v2'), (0, 2, 63), (1, 0, v1), (3, 0, v3), (4, 0, v4)]) gd_Model_next2_164 5 rfl q3815 (by decide) rfl ?_
      refine gh_goto (tgt := 73) gd_Model_next2_167 (by decide) ?_
      refine gh_pick (L2 := [(0, 2, 63), (1, 0, v1), (2, 0, v2'), (3, 0, v3), (4, 0, v4), (5, 0, v5 + 1)]) [2, 3, 1, 4, 5, 0] rfl ?_
      exact hK73 v2' (v5 + 1) hF h
    refine gh_zeq (tgt := 161) gd_Model_next2_130 (by decide) (fun c3816 => ?_) (fun c3816 => ?_)
    · have hz : True := trivial
      refine gh_iconst gd_Model_next2_161 (gh_r0 rfl) ?_
      exact k3813 _ (by rw [if_pos c3816])
    · have hz : True := trivial
      have hk := hk c3816
      refine gh_aload_n gd_Model_next2_133 0 rfl (by decide) ?_
      refine gf_63_54 gd_Model_next2_134 gh_k1424 hF ?_
      refine gh_iload gd_Model_next2_137 4 rfl ?_
      refine gh_iload_n gd_Model_next2_139 3 rfl ?_
      refine gh_iconst gd_Model_next2_140 (gh_r0 rfl) ?_
      obtain ⟨q3807, hk⟩ := hk
      refine gh_irem gd_Model_next2_141 q3807 (by decide) ?_
      refine gh_iload gd_Model_next2_142 5 rfl ?_
      refine gh_iload_n gd_Model_next2_144 1 rfl ?_
      obtain ⟨q3808, hk⟩ := hk
      refine cv_Model_begun (d := d + 2) gd_Model_next2_145 gh_k1907 (Nat.le_of_ble_eq_true rfl) (gh_C.pe (e_Model_begun (d + 2) v4 (v3 % 4) v5 v1 q3808) ?_)
      obtain ⟨q3809, hk⟩ := hk
      obtain ⟨q3810, hk⟩ := hk
      refine la_98 gd_Model_next2_148 hF q3809 q3810 rfl ?_
      refine gh_zeq (tgt := 161) gd_Model_next2_149 (by decide) (fun c3817 => ?_) (fun c3817 => ?_)
      · have hz : True := trivial
        refine gh_iconst gd_Model_next2_161 (gh_r0 rfl) ?_
        exact k3813 _ (by rw [if_neg c3816, if_pos c3817])
      · have hz : True := trivial
        have hk := hk c3817
        refine gh_aload_n gd_Model_next2_152 0 rfl (by decide) ?_
        refine gf_63_34 gd_Model_next2_153 gh_k1404 hF ?_
        refine gh_iload_n gd_Model_next2_156 3 rfl ?_
        obtain ⟨q3811, hk⟩ := hk
        have q3812 := hk
        refine la_81 gd_Model_next2_157 hF q3811 q3812 rfl ?_
        refine gh_goto (tgt := 162) gd_Model_next2_158 (by decide) ?_
        exact k3813 _ (by rw [if_neg c3816, if_neg c3817])
  refine gh_jgt (tgt := 170) gd_Model_next2_76 (by decide) (fun c3818 => ?_) (fun c3818 => ?_)
  · have hz : True := trivial
    have hk := hk c3818
    refine gh_iload_n gd_Model_next2_79 3 rfl ?_
    refine gh_iconst gd_Model_next2_80 (gh_r0 rfl) ?_
    obtain ⟨q3792, hk⟩ := hk
    refine gh_irem gd_Model_next2_81 q3792 (by decide) ?_
    refine gh_aload_n gd_Model_next2_82 0 rfl (by decide) ?_
    refine gf_63_33 gd_Model_next2_83 gh_k1403 hF ?_
    refine gh_iload gd_Model_next2_86 4 rfl ?_
    obtain ⟨q3793, hk⟩ := hk
    obtain ⟨q3794, hk⟩ := hk
    refine la_80 gd_Model_next2_88 hF q3793 q3794 rfl ?_
    refine gh_jge (tgt := 170) gd_Model_next2_89 (by decide) (fun c3819 => ?_) (fun c3819 => ?_)
    · have hz : True := trivial
      have hk := hk c3819
      refine gh_aload_n gd_Model_next2_92 0 rfl (by decide) ?_
      refine gf_63_34 gd_Model_next2_93 gh_k1404 hF ?_
      refine gh_iload_n gd_Model_next2_96 3 rfl ?_
      obtain ⟨q3795, hk⟩ := hk
      obtain ⟨q3796, hk⟩ := hk
      refine la_81 gd_Model_next2_97 hF q3795 q3796 rfl ?_
      refine gh_zle (tgt := 170) gd_Model_next2_98 (by decide) (fun c3820 => ?_) (fun c3820 => ?_)
      · have hz : True := trivial
        exact k3799 (Or.inr (Or.inr (Or.inl c3820)))
      · have hz : True := trivial
        have hk := hk c3820
        refine gh_aload_n gd_Model_next2_101 0 rfl (by decide) ?_
        refine gf_63_36 gd_Model_next2_102 gh_k1406 hF ?_
        refine gh_iload gd_Model_next2_105 4 rfl ?_
        obtain ⟨q3797, hk⟩ := hk
        have q3798 := hk
        refine la_83 gd_Model_next2_107 hF q3797 q3798 rfl ?_
        refine gh_zeq (tgt := 170) gd_Model_next2_108 (by decide) (fun c3821 => ?_) (fun c3821 => ?_)
        · have hz : True := trivial
          exact k3799 (Or.inr (Or.inr (Or.inr c3821)))
        · have hz : True := trivial
          exact k3800 (fun z => z.elim (fun w => w c3818) (fun z => z.elim (fun w => w c3819) (fun z => z.elim c3820 c3821)))
    · have hz : True := trivial
      exact k3799 (Or.inr (Or.inl c3819))
  · have hz : True := trivial
    exact k3799 (Or.inl c3818)
theorem b_Model_next2_55 {E : gh_E} {v1 : Int} {Q : Int → gh_M → Prop} {K55 : Int → Int → Prop} (d : Nat) {m3783 : gh_M} (hK : ∀ (v2 : Int) (v3 : Int), gh_F m3783 → K55 v2 v3 → gh_T E (gh_yModel_next2.cls, prog_14_method_78_code, 6, false, 0) (d + 3) 55 [(0, 2, 63), (1, 0, v1), (2, 0, v2), (3, 0, v3)] [] m3783 (fun r m1 => gh_F m1 ∧ Q r m1)) (v2 : Int) (v3 : Int) (hF : gh_F m3783) (h : f_Model_next2_55 v1 Q m3783 K55 v2 v3) : gh_T E (gh_yModel_next2.cls, prog_14_method_78_code, 6, false, 0) (d + 3) 55 [(0, 2, 63), (1, 0, v1), (2, 0, v2), (3, 0, v3)] [] m3783 (fun r m1 => gh_F m1 ∧ Q r m1) := by
  have hK55 := hK
  unfold f_Model_next2_55 at h
  refine gh_iload_n gd_Model_next2_55 3 rfl ?_
  refine gh_iconst gd_Model_next2_56 (gh_r0 rfl) ?_
  refine gh_aload_n gd_Model_next2_57 0 rfl (by decide) ?_
  refine gf_63_27 gd_Model_next2_58 gh_k1397 hF rfl ?_
  obtain ⟨q3788, h⟩ := h
  refine gh_imul gd_Model_next2_61 q3788 ?_
  obtain ⟨hA, hB⟩ := h
  refine gh_jge (tgt := 176) gd_Model_next2_62 (by decide) (fun c3789 => ?_) (fun c3789 => ?_)
  · have h := hA c3789
    refine gh_iload_n gd_Model_next2_65 3 rfl ?_
    refine gh_iconst gd_Model_next2_66 (gh_r0 rfl) ?_
    obtain ⟨q3790, h⟩ := h
    refine gh_idiv gd_Model_next2_67 q3790 (by decide) ?_
    refine gh_name (fun v4 hn => ?_)
    have h := h v4 hn
    refine gh_istore (L2 := [(4, 0, v4), (0, 2, 63), (1, 0, v1), (2, 0, v2), (3, 0, v3)]) gd_Model_next2_68 (by decide) rfl ?_
    refine gh_iconst gd_Model_next2_70 (gh_r0 rfl) ?_
    refine gh_istore (L2 := [(5, 0, 0), (4, 0, v4), (0, 2, 63), (1, 0, v1), (2, 0, v2), (3, 0, v3)]) gd_Model_next2_71 (by decide) rfl ?_
    refine gh_pick (L2 := [(0, 2, 63), (1, 0, v1), (2, 0, v2), (3, 0, v3), (4, 0, v4), (5, 0, 0)]) [2, 3, 4, 5, 1, 0] rfl ?_
    exact gh_L2_sound (T := fun v2 v5 => gh_T E (gh_yModel_next2.cls, prog_14_method_78_code, 6, false, 0) (d + 3) 73 [(0, 2, 63), (1, 0, v1), (2, 0, v2), (3, 0, v3), (4, 0, v4), (5, 0, v5)] [] m3783 (fun r m1 => gh_F m1 ∧ Q r m1)) (fun _ _ => gh_F m3783) (fun K73 v2 v5 hK hF h => b_Model_next2_73 d hK55 hK v2 v5 hF h) v2 0 hF h
  · have h := hB c3789
    refine gh_iload_n gd_Model_next2_176 2 rfl ?_
    exact gh_ret0 rfl gd_Model_next2_177 ⟨hF, h⟩
theorem s_Model_next2 {E : gh_E} {m : gh_M} {Q : Int → gh_M → Prop} (d : Nat) (v1 : Int) (hF : gh_F m) (h : w_Model_next2 v1 m Q) : gh_C E gh_yModel_next2 prog_14_method_78_code 6 (some .int) 0 (d + 3) [(2, 63), (0, v1)] m (fun r m1 => gh_F m1 ∧ Q r m1) := by
  refine gh_enter2 (L := [(0, 2, 63), (1, 0, v1)]) (by decide +kernel) gh_rt0 (Nat.le_of_ble_eq_true rfl) rfl rfl ?_
  unfold w_Model_next2 at h
  refine gh_aload_n gd_Model_next2_0 0 rfl (by decide) ?_
  refine gf_63_24 gd_Model_next2_1 gh_k1394 hF rfl ?_
  obtain ⟨J15, hJ15, h⟩ := h
  have hJ15 : gh_F m → J15 → gh_T E (gh_yModel_next2.cls, prog_14_method_78_code, 6, false, 0) (d + 3) 15 [(0, 2, 63)] [] m (fun r m1 => gh_F m1 ∧ Q r m1) := by
    intro hF hj
    have h := hJ15 hj
    refine gh_aload_n gd_Model_next2_15 0 rfl (by decide) ?_
    refine gf_63_24 gd_Model_next2_16 gh_k1394 hF rfl ?_
    have k3777 : ∀ x3778 : Int, x3778 = (if (m 63 24) = 0 then (-1003) else (-1001)) → gh_T E (gh_yModel_next2.cls, prog_14_method_78_code, 6, false, 0) (d + 3) 31 [(0, 2, 63)] [(0, x3778)] m (fun r m1 => gh_F m1 ∧ Q r m1) := by
      rintro _ rfl
      exact gh_ret0 rfl gd_Model_next2_31 ⟨hF, h⟩
    refine gh_zeq (tgt := 28) gd_Model_next2_19 (by decide) (fun c3779 => ?_) (fun c3779 => ?_)
    · have hz : True := trivial
      refine gh_sipush gd_Model_next2_28 (by decide) (gh_r0 rfl) ?_
      exact k3777 _ (by rw [if_pos c3779])
    · have hz : True := trivial
      refine gh_sipush gd_Model_next2_22 (by decide) (gh_r0 rfl) ?_
      refine gh_goto (tgt := 31) gd_Model_next2_25 (by decide) ?_
      exact k3777 _ (by rw [if_neg c3779])
  obtain ⟨hA, hB⟩ := h
  have k3780 : (¬ ((m 63 24) = 0) ∧ (p_Model_isPlace v1 m)) → gh_T E (gh_yModel_next2.cls, prog_14_method_78_code, 6, false, 0) (d + 3) 32 [(0, 2, 63), (1, 0, v1)] [] m (fun r m1 => gh_F m1 ∧ Q r m1) := by
    intro c
    have h := hA c
    refine gh_aload_n gd_Model_next2_32 0 rfl (by decide) ?_
    refine cv_Model_lay (d := d + 2) gd_Model_next2_33 gh_k1899 hF (Nat.le_of_ble_eq_true rfl) (gh_C.mono (s_Model_lay d hF h) (fun r3782 m3783 hq => ?_))
    obtain ⟨hF, h⟩ := hq
    refine gh_aload_n gd_Model_next2_36 0 rfl (by decide) ?_
    refine gf_63_53 gd_Model_next2_37 gh_k1423 hF ?_
    refine gh_iload_n gd_Model_next2_40 1 rfl ?_
    obtain ⟨q3784, h⟩ := h
    obtain ⟨q3785, h⟩ := h
    refine la_97 gd_Model_next2_41 hF q3784 q3785 rfl ?_
    have k3786 : ∀ x3787 : Int, x3787 = (if (m3783 97 v1) = 0 then 0 else 67108864) → gh_T E (gh_yModel_next2.cls, prog_14_method_78_code, 6, false, 0) (d + 3) 52 [(0, 2, 63), (1, 0, v1)] [(0, x3787)] m3783 (fun r m1 => gh_F m1 ∧ Q r m1) := by
      rintro _ rfl
      refine gh_name (fun v2 hn => ?_)
      have h := h v2 hn
      refine gh_istore_n (L2 := [(2, 0, v2), (0, 2, 63), (1, 0, v1)]) gd_Model_next2_52 (by decide) rfl ?_
      refine gh_iconst gd_Model_next2_53 (gh_r0 rfl) ?_
      refine gh_istore_n (L2 := [(3, 0, 0), (2, 0, v2), (0, 2, 63), (1, 0, v1)]) gd_Model_next2_54 (by decide) rfl ?_
      refine gh_pick (L2 := [(0, 2, 63), (1, 0, v1), (2, 0, v2), (3, 0, 0)]) [2, 3, 1, 0] rfl ?_
      exact gh_L2_sound (T := fun v2 v3 => gh_T E (gh_yModel_next2.cls, prog_14_method_78_code, 6, false, 0) (d + 3) 55 [(0, 2, 63), (1, 0, v1), (2, 0, v2), (3, 0, v3)] [] m3783 (fun r m1 => gh_F m1 ∧ Q r m1)) (fun _ _ => gh_F m3783) (fun K55 v2 v3 hK hF h => b_Model_next2_55 d hK v2 v3 hF h) v2 0 hF h
    refine gh_zeq (tgt := 51) gd_Model_next2_42 (by decide) (fun c3822 => ?_) (fun c3822 => ?_)
    · have hz : True := trivial
      refine gh_iconst gd_Model_next2_51 (gh_r0 rfl) ?_
      exact k3786 _ (by rw [if_pos c3822])
    · have hz : True := trivial
      refine gh_ldcw (n := 67108864) gd_Model_next2_45 gh_k1767 (by decide) (gh_r0 rfl) ?_
      refine gh_goto (tgt := 52) gd_Model_next2_48 (by decide) ?_
      exact k3786 _ (by rw [if_neg c3822])
  have k3781 : ¬ (¬ ((m 63 24) = 0) ∧ (p_Model_isPlace v1 m)) → gh_T E (gh_yModel_next2.cls, prog_14_method_78_code, 6, false, 0) (d + 3) 15 [(0, 2, 63), (1, 0, v1)] [] m (fun r m1 => gh_F m1 ∧ Q r m1) := by
    intro c
    have h := hB c
    refine gh_pick (L2 := [(0, 2, 63)]) [0] rfl ?_
    exact hJ15 hF h
  refine gh_zeq (tgt := 15) gd_Model_next2_4 (by decide) (fun c3823 => ?_) (fun c3823 => ?_)
  · have hz : True := trivial
    exact k3781 (fun z => z.1 c3823)
  · have hz : True := trivial
    refine gh_aload_n gd_Model_next2_7 0 rfl (by decide) ?_
    refine gh_iload_n gd_Model_next2_8 1 rfl ?_
    refine cv_Model_isPlace (d := d + 2) gd_Model_next2_9 gh_k1875 hF (Nat.le_of_ble_eq_true rfl) (gh_C.pe (e_Model_isPlace (d + 1) v1 hF) ?_)
    refine gh_bne (tgt := 32) gd_Model_next2_12 (by decide) (fun c3824 => ?_) (fun c3824 => ?_)
    · have hz : True := trivial
      exact k3780 ⟨c3823, c3824⟩
    · have hz : True := trivial
      exact k3781 (fun z => c3824 z.2)
def f_Model_items_65 (v1 : Int) (v3 : Int) (v4 : Int) (K51 : Int → Int → Prop) (m3831 : gh_M) (K65 : Int → Int → Prop) (v2 : Int) (v5 : Int) : Prop := ((v5 ≤ v1 → k_Model_isItemAt v3 v4 v5 v1 m3831 ∧ gh_i (v2 + (if (p_Model_isItemAt v3 v4 v5 v1 m3831) then (1:Int) else 0)) ∧ ∀ v2' : Int, v2' = v2 + (if (p_Model_isItemAt v3 v4 v5 v1 m3831) then (1:Int) else 0) → gh_i (v5 + 1) ∧ K65 v2' (v5 + 1)) ∧ (¬ (v5 ≤ v1) → gh_i (v4 + 1) ∧ K51 v2 (v4 + 1)))
def f_Model_items_51 (v1 : Int) (v3 : Int) (K40 : Int → Int → Prop) (m3831 : gh_M) (K51 : Int → Int → Prop) (v2 : Int) (v4 : Int) : Prop := 0 ≤ v3 ∧ v3 < 20 ∧ ((v4 ≤ (m3831 80 v3) → gh_L2 (fun K65 v2 v5 => f_Model_items_65 v1 v3 v4 K51 m3831 K65 v2 v5) v2 0) ∧ (¬ (v4 ≤ (m3831 80 v3)) → gh_i (v3 + 1) ∧ K40 v2 (v3 + 1)))
def f_Model_items_40 (v1 : Int) (Q : Int → gh_M → Prop) (m3831 : gh_M) (K40 : Int → Int → Prop) (v2 : Int) (v3 : Int) : Prop := ((v3 < (m3831 63 27) → gh_L2 (fun K51 v2 v4 => f_Model_items_51 v1 v3 K40 m3831 K51 v2 v4) v2 0) ∧ (¬ (v3 < (m3831 63 27)) → Q v2 m3831))
def w_Model_items (v1 : Int) (m : gh_M) (Q : Int → gh_M → Prop) : Prop := ∃ J15 : Prop, (J15 → Q (if (m 63 24) = 0 then (-1003) else (-1001)) m) ∧ (((¬ ((m 63 24) = 0) ∧ (p_Model_isPlace v1 m)) → w_Model_lay m (fun _ m3831 => gh_L2 (fun K40 v2 v3 => f_Model_items_40 v1 Q m3831 K40 v2 v3) 0 0)) ∧ (¬ (¬ ((m 63 24) = 0) ∧ (p_Model_isPlace v1 m)) → J15))
theorem b_Model_items_65 {E : gh_E} {v1 : Int} {v3 : Int} {v4 : Int} {K51 : Int → Int → Prop} {Q : Int → gh_M → Prop} {K65 : Int → Int → Prop} (d : Nat) {m3831 : gh_M} (hK51 : ∀ (v2 : Int) (v4 : Int), gh_F m3831 → K51 v2 v4 → gh_T E (gh_yModel_items.cls, prog_14_method_79_code, 6, false, 0) (d + 3) 51 [(0, 2, 63), (1, 0, v1), (2, 0, v2), (3, 0, v3), (4, 0, v4)] [] m3831 (fun r m1 => gh_F m1 ∧ Q r m1)) (hK : ∀ (v2 : Int) (v5 : Int), gh_F m3831 → K65 v2 v5 → gh_T E (gh_yModel_items.cls, prog_14_method_79_code, 6, false, 0) (d + 3) 65 [(0, 2, 63), (1, 0, v1), (2, 0, v2), (3, 0, v3), (4, 0, v4), (5, 0, v5)] [] m3831 (fun r m1 => gh_F m1 ∧ Q r m1)) (v2 : Int) (v5 : Int) (hF : gh_F m3831) (h : f_Model_items_65 v1 v3 v4 K51 m3831 K65 v2 v5) : gh_T E (gh_yModel_items.cls, prog_14_method_79_code, 6, false, 0) (d + 3) 65 [(0, 2, 63), (1, 0, v1), (2, 0, v2), (3, 0, v3), (4, 0, v4), (5, 0, v5)] [] m3831 (fun r m1 => gh_F m1 ∧ Q r m1) := by
  have hK65 := hK
  unfold f_Model_items_65 at h
  refine gh_iload gd_Model_items_65 5 rfl ?_
  refine gh_iload_n gd_Model_items_67 1 rfl ?_
  obtain ⟨hA, hB⟩ := h
  refine gh_jgt (tgt := 98) gd_Model_items_68 (by decide) (fun c3836 => ?_) (fun c3836 => ?_)
  · have h := hA c3836
    refine gh_iload_n gd_Model_items_71 2 rfl ?_
    refine gh_aload_n gd_Model_items_72 0 rfl (by decide) ?_
    refine gh_iload_n gd_Model_items_73 3 rfl ?_
    refine gh_iload gd_Model_items_74 4 rfl ?_
    refine gh_iload gd_Model_items_76 5 rfl ?_
    refine gh_iload_n gd_Model_items_78 1 rfl ?_
    obtain ⟨q3837, h⟩ := h
    refine cv_Model_isItemAt (d := d + 2) gd_Model_items_79 gh_k1930 hF (Nat.le_of_ble_eq_true rfl) (gh_C.pe (e_Model_isItemAt (d + 1) v3 v4 v5 v1 hF q3837) ?_)
    have k3838 : ∀ x3839 : Int, x3839 = (if (p_Model_isItemAt v3 v4 v5 v1 m3831) then (1:Int) else 0) → gh_T E (gh_yModel_items.cls, prog_14_method_79_code, 6, false, 0) (d + 3) 90 [(0, 2, 63), (1, 0, v1), (2, 0, v2), (3, 0, v3), (4, 0, v4), (5, 0, v5)] [(0, x3839), (0, v2)] m3831 (fun r m1 => gh_F m1 ∧ Q r m1) := by
      rintro _ rfl
      obtain ⟨q3840, h⟩ := h
      refine gh_iadd gd_Model_items_90 q3840 ?_
      refine gh_name (fun v2' hn => ?_)
      have h := h v2' hn
      refine gh_istore_n (L2 := [(2, 0, v2'), (0, 2, 63), (1, 0, v1), (3, 0, v3), (4, 0, v4), (5, 0, v5)]) gd_Model_items_91 (by decide) rfl ?_
      obtain ⟨q3841, h⟩ := h
      refine gh_iinc (L2 := [(5, 0, v5 + 1), (2, 0, v2'), (0, 2, 63), (1, 0, v1), (3, 0, v3), (4, 0, v4)]) gd_Model_items_92 5 rfl q3841 (by decide) rfl ?_
      refine gh_goto (tgt := 65) gd_Model_items_95 (by decide) ?_
      refine gh_pick (L2 := [(0, 2, 63), (1, 0, v1), (2, 0, v2'), (3, 0, v3), (4, 0, v4), (5, 0, v5 + 1)]) [2, 3, 1, 4, 5, 0] rfl ?_
      exact hK65 v2' (v5 + 1) hF h
    refine gh_beq (tgt := 89) gd_Model_items_82 (by decide) (fun c3842 => ?_) (fun c3842 => ?_)
    · have hz : True := trivial
      refine gh_iconst gd_Model_items_85 (gh_r0 rfl) ?_
      refine gh_goto (tgt := 90) gd_Model_items_86 (by decide) ?_
      exact k3838 _ (if_pos (c := (p_Model_isItemAt v3 v4 v5 v1 m3831)) c3842).symm
    · have hz : True := trivial
      refine gh_iconst gd_Model_items_89 (gh_r0 rfl) ?_
      exact k3838 _ (if_neg (c := (p_Model_isItemAt v3 v4 v5 v1 m3831)) c3842).symm
  · have h := hB c3836
    obtain ⟨q3843, h⟩ := h
    refine gh_iinc (L2 := [(4, 0, v4 + 1), (0, 2, 63), (1, 0, v1), (2, 0, v2), (3, 0, v3), (5, 0, v5)]) gd_Model_items_98 4 rfl q3843 (by decide) rfl ?_
    refine gh_goto (tgt := 51) gd_Model_items_101 (by decide) ?_
    refine gh_pick (L2 := [(0, 2, 63), (1, 0, v1), (2, 0, v2), (3, 0, v3), (4, 0, v4 + 1)]) [1, 2, 3, 4, 0] rfl ?_
    exact hK51 v2 (v4 + 1) hF h
theorem b_Model_items_51 {E : gh_E} {v1 : Int} {v3 : Int} {K40 : Int → Int → Prop} {Q : Int → gh_M → Prop} {K51 : Int → Int → Prop} (d : Nat) {m3831 : gh_M} (hK40 : ∀ (v2 : Int) (v3 : Int), gh_F m3831 → K40 v2 v3 → gh_T E (gh_yModel_items.cls, prog_14_method_79_code, 6, false, 0) (d + 3) 40 [(0, 2, 63), (1, 0, v1), (2, 0, v2), (3, 0, v3)] [] m3831 (fun r m1 => gh_F m1 ∧ Q r m1)) (hK : ∀ (v2 : Int) (v4 : Int), gh_F m3831 → K51 v2 v4 → gh_T E (gh_yModel_items.cls, prog_14_method_79_code, 6, false, 0) (d + 3) 51 [(0, 2, 63), (1, 0, v1), (2, 0, v2), (3, 0, v3), (4, 0, v4)] [] m3831 (fun r m1 => gh_F m1 ∧ Q r m1)) (v2 : Int) (v4 : Int) (hF : gh_F m3831) (h : f_Model_items_51 v1 v3 K40 m3831 K51 v2 v4) : gh_T E (gh_yModel_items.cls, prog_14_method_79_code, 6, false, 0) (d + 3) 51 [(0, 2, 63), (1, 0, v1), (2, 0, v2), (3, 0, v3), (4, 0, v4)] [] m3831 (fun r m1 => gh_F m1 ∧ Q r m1) := by
  have hK51 := hK
  unfold f_Model_items_51 at h
  refine gh_iload gd_Model_items_51 4 rfl ?_
  refine gh_aload_n gd_Model_items_53 0 rfl (by decide) ?_
  refine gf_63_33 gd_Model_items_54 gh_k1403 hF ?_
  refine gh_iload_n gd_Model_items_57 3 rfl ?_
  obtain ⟨q3833, h⟩ := h
  obtain ⟨q3834, h⟩ := h
  refine la_80 gd_Model_items_58 hF q3833 q3834 rfl ?_
  obtain ⟨hA, hB⟩ := h
  refine gh_jgt (tgt := 104) gd_Model_items_59 (by decide) (fun c3835 => ?_) (fun c3835 => ?_)
  · have h := hA c3835
    refine gh_iconst gd_Model_items_62 (gh_r0 rfl) ?_
    refine gh_istore (L2 := [(5, 0, 0), (0, 2, 63), (1, 0, v1), (2, 0, v2), (3, 0, v3), (4, 0, v4)]) gd_Model_items_63 (by decide) rfl ?_
    refine gh_pick (L2 := [(0, 2, 63), (1, 0, v1), (2, 0, v2), (3, 0, v3), (4, 0, v4), (5, 0, 0)]) [1, 2, 3, 4, 5, 0] rfl ?_
    exact gh_L2_sound (T := fun v2 v5 => gh_T E (gh_yModel_items.cls, prog_14_method_79_code, 6, false, 0) (d + 3) 65 [(0, 2, 63), (1, 0, v1), (2, 0, v2), (3, 0, v3), (4, 0, v4), (5, 0, v5)] [] m3831 (fun r m1 => gh_F m1 ∧ Q r m1)) (fun _ _ => gh_F m3831) (fun K65 v2 v5 hK hF h => b_Model_items_65 d hK51 hK v2 v5 hF h) v2 0 hF h
  · have h := hB c3835
    obtain ⟨q3844, h⟩ := h
    refine gh_iinc (L2 := [(3, 0, v3 + 1), (0, 2, 63), (1, 0, v1), (2, 0, v2), (4, 0, v4)]) gd_Model_items_104 3 rfl q3844 (by decide) rfl ?_
    refine gh_goto (tgt := 40) gd_Model_items_107 (by decide) ?_
    refine gh_pick (L2 := [(0, 2, 63), (1, 0, v1), (2, 0, v2), (3, 0, v3 + 1)]) [1, 2, 3, 0] rfl ?_
    exact hK40 v2 (v3 + 1) hF h
theorem b_Model_items_40 {E : gh_E} {v1 : Int} {Q : Int → gh_M → Prop} {K40 : Int → Int → Prop} (d : Nat) {m3831 : gh_M} (hK : ∀ (v2 : Int) (v3 : Int), gh_F m3831 → K40 v2 v3 → gh_T E (gh_yModel_items.cls, prog_14_method_79_code, 6, false, 0) (d + 3) 40 [(0, 2, 63), (1, 0, v1), (2, 0, v2), (3, 0, v3)] [] m3831 (fun r m1 => gh_F m1 ∧ Q r m1)) (v2 : Int) (v3 : Int) (hF : gh_F m3831) (h : f_Model_items_40 v1 Q m3831 K40 v2 v3) : gh_T E (gh_yModel_items.cls, prog_14_method_79_code, 6, false, 0) (d + 3) 40 [(0, 2, 63), (1, 0, v1), (2, 0, v2), (3, 0, v3)] [] m3831 (fun r m1 => gh_F m1 ∧ Q r m1) := by
  have hK40 := hK
  unfold f_Model_items_40 at h
  refine gh_iload_n gd_Model_items_40 3 rfl ?_
  refine gh_aload_n gd_Model_items_41 0 rfl (by decide) ?_
  refine gf_63_27 gd_Model_items_42 gh_k1397 hF rfl ?_
  obtain ⟨hA, hB⟩ := h
  refine gh_jge (tgt := 110) gd_Model_items_45 (by decide) (fun c3832 => ?_) (fun c3832 => ?_)
  · have h := hA c3832
    refine gh_iconst gd_Model_items_48 (gh_r0 rfl) ?_
    refine gh_istore (L2 := [(4, 0, 0), (0, 2, 63), (1, 0, v1), (2, 0, v2), (3, 0, v3)]) gd_Model_items_49 (by decide) rfl ?_
    refine gh_pick (L2 := [(0, 2, 63), (1, 0, v1), (2, 0, v2), (3, 0, v3), (4, 0, 0)]) [1, 2, 3, 4, 0] rfl ?_
    exact gh_L2_sound (T := fun v2 v4 => gh_T E (gh_yModel_items.cls, prog_14_method_79_code, 6, false, 0) (d + 3) 51 [(0, 2, 63), (1, 0, v1), (2, 0, v2), (3, 0, v3), (4, 0, v4)] [] m3831 (fun r m1 => gh_F m1 ∧ Q r m1)) (fun _ _ => gh_F m3831) (fun K51 v2 v4 hK hF h => b_Model_items_51 d hK40 hK v2 v4 hF h) v2 0 hF h
  · have h := hB c3832
    refine gh_iload_n gd_Model_items_110 2 rfl ?_
    exact gh_ret0 rfl gd_Model_items_111 ⟨hF, h⟩
theorem s_Model_items {E : gh_E} {m : gh_M} {Q : Int → gh_M → Prop} (d : Nat) (v1 : Int) (hF : gh_F m) (h : w_Model_items v1 m Q) : gh_C E gh_yModel_items prog_14_method_79_code 6 (some .int) 0 (d + 3) [(2, 63), (0, v1)] m (fun r m1 => gh_F m1 ∧ Q r m1) := by
  refine gh_enter2 (L := [(0, 2, 63), (1, 0, v1)]) (by decide +kernel) gh_rt0 (Nat.le_of_ble_eq_true rfl) rfl rfl ?_
  unfold w_Model_items at h
  refine gh_aload_n gd_Model_items_0 0 rfl (by decide) ?_
  refine gf_63_24 gd_Model_items_1 gh_k1394 hF rfl ?_
  obtain ⟨J15, hJ15, h⟩ := h
  have hJ15 : gh_F m → J15 → gh_T E (gh_yModel_items.cls, prog_14_method_79_code, 6, false, 0) (d + 3) 15 [(0, 2, 63)] [] m (fun r m1 => gh_F m1 ∧ Q r m1) := by
    intro hF hj
    have h := hJ15 hj
    refine gh_aload_n gd_Model_items_15 0 rfl (by decide) ?_
    refine gf_63_24 gd_Model_items_16 gh_k1394 hF rfl ?_
    have k3825 : ∀ x3826 : Int, x3826 = (if (m 63 24) = 0 then (-1003) else (-1001)) → gh_T E (gh_yModel_items.cls, prog_14_method_79_code, 6, false, 0) (d + 3) 31 [(0, 2, 63)] [(0, x3826)] m (fun r m1 => gh_F m1 ∧ Q r m1) := by
      rintro _ rfl
      exact gh_ret0 rfl gd_Model_items_31 ⟨hF, h⟩
    refine gh_zeq (tgt := 28) gd_Model_items_19 (by decide) (fun c3827 => ?_) (fun c3827 => ?_)
    · have hz : True := trivial
      refine gh_sipush gd_Model_items_28 (by decide) (gh_r0 rfl) ?_
      exact k3825 _ (by rw [if_pos c3827])
    · have hz : True := trivial
      refine gh_sipush gd_Model_items_22 (by decide) (gh_r0 rfl) ?_
      refine gh_goto (tgt := 31) gd_Model_items_25 (by decide) ?_
      exact k3825 _ (by rw [if_neg c3827])
  obtain ⟨hA, hB⟩ := h
  have k3828 : (¬ ((m 63 24) = 0) ∧ (p_Model_isPlace v1 m)) → gh_T E (gh_yModel_items.cls, prog_14_method_79_code, 6, false, 0) (d + 3) 32 [(0, 2, 63), (1, 0, v1)] [] m (fun r m1 => gh_F m1 ∧ Q r m1) := by
    intro c
    have h := hA c
    refine gh_aload_n gd_Model_items_32 0 rfl (by decide) ?_
    refine cv_Model_lay (d := d + 2) gd_Model_items_33 gh_k1899 hF (Nat.le_of_ble_eq_true rfl) (gh_C.mono (s_Model_lay d hF h) (fun r3830 m3831 hq => ?_))
    obtain ⟨hF, h⟩ := hq
    refine gh_iconst gd_Model_items_36 (gh_r0 rfl) ?_
    refine gh_istore_n (L2 := [(2, 0, 0), (0, 2, 63), (1, 0, v1)]) gd_Model_items_37 (by decide) rfl ?_
    refine gh_iconst gd_Model_items_38 (gh_r0 rfl) ?_
    refine gh_istore_n (L2 := [(3, 0, 0), (2, 0, 0), (0, 2, 63), (1, 0, v1)]) gd_Model_items_39 (by decide) rfl ?_
    refine gh_pick (L2 := [(0, 2, 63), (1, 0, v1), (2, 0, 0), (3, 0, 0)]) [2, 3, 1, 0] rfl ?_
    exact gh_L2_sound (T := fun v2 v3 => gh_T E (gh_yModel_items.cls, prog_14_method_79_code, 6, false, 0) (d + 3) 40 [(0, 2, 63), (1, 0, v1), (2, 0, v2), (3, 0, v3)] [] m3831 (fun r m1 => gh_F m1 ∧ Q r m1)) (fun _ _ => gh_F m3831) (fun K40 v2 v3 hK hF h => b_Model_items_40 d hK v2 v3 hF h) 0 0 hF h
  have k3829 : ¬ (¬ ((m 63 24) = 0) ∧ (p_Model_isPlace v1 m)) → gh_T E (gh_yModel_items.cls, prog_14_method_79_code, 6, false, 0) (d + 3) 15 [(0, 2, 63), (1, 0, v1)] [] m (fun r m1 => gh_F m1 ∧ Q r m1) := by
    intro c
    have h := hB c
    refine gh_pick (L2 := [(0, 2, 63)]) [0] rfl ?_
    exact hJ15 hF h
  refine gh_zeq (tgt := 15) gd_Model_items_4 (by decide) (fun c3845 => ?_) (fun c3845 => ?_)
  · have hz : True := trivial
    exact k3829 (fun z => z.1 c3845)
  · have hz : True := trivial
    refine gh_aload_n gd_Model_items_7 0 rfl (by decide) ?_
    refine gh_iload_n gd_Model_items_8 1 rfl ?_
    refine cv_Model_isPlace (d := d + 2) gd_Model_items_9 gh_k1875 hF (Nat.le_of_ble_eq_true rfl) (gh_C.pe (e_Model_isPlace (d + 1) v1 hF) ?_)
    refine gh_bne (tgt := 32) gd_Model_items_12 (by decide) (fun c3846 => ?_) (fun c3846 => ?_)
    · have hz : True := trivial
      exact k3828 ⟨c3845, c3846⟩
    · have hz : True := trivial
      exact k3829 (fun z => c3846 z.2)
def w_Model_isItem (v1 : Int) (v2 : Int) (v3 : Int) (v4 : Int) (m : gh_M) (Q : Int → gh_M → Prop) : Prop := ∃ J36 : Prop, (J36 → ((¬ (v2 < 0) → ((¬ ((m 63 24) = 0) → (0 ≤ v1 ∧ v1 < 20))))) ∧ (((¬ (v2 < 0) ∧ (((m 63 24) = 0) ∨ (v2 ≤ (m 80 v1)))) → (((m 63 24) = 0 → Q (-1003) m) ∧ (¬ ((m 63 24) = 0) → w_Model_lay m (fun _ m3853 => k_Model_isItemAt v1 v2 v3 v4 m3853 ∧ Q (if p_Model_isItemAt v1 v2 v3 v4 m3853 then (1:Int) else 0) m3853)))) ∧ (¬ (¬ (v2 < 0) ∧ (((m 63 24) = 0) ∨ (v2 ≤ (m 80 v1)))) → Q (-1002) m))) ∧ ((¬ ((m 63 24) = 0) → (k_Model_isRule v1 m))) ∧ (((((m 63 24) = 0) ∨ ((p_Model_isRule v1 m) ∧ ((p_Model_isPlace v3 m) ∧ (p_Model_isPlace v4 m)))) → J36) ∧ (¬ (((m 63 24) = 0) ∨ ((p_Model_isRule v1 m) ∧ ((p_Model_isPlace v3 m) ∧ (p_Model_isPlace v4 m)))) → Q (-1001) m))
theorem s_Model_isItem {E : gh_E} {m : gh_M} {Q : Int → gh_M → Prop} (d : Nat) (v1 : Int) (v2 : Int) (v3 : Int) (v4 : Int) (hF : gh_F m) (h : w_Model_isItem v1 v2 v3 v4 m Q) : gh_C E gh_yModel_isItem prog_14_method_80_code 5 (some .int) 0 (d + 3) [(2, 63), (0, v1), (0, v2), (0, v3), (0, v4)] m (fun r m1 => gh_F m1 ∧ Q r m1) := by
  refine gh_enter2 (L := [(0, 2, 63), (1, 0, v1), (2, 0, v2), (3, 0, v3), (4, 0, v4)]) (by decide +kernel) gh_rt0 (Nat.le_of_ble_eq_true rfl) rfl rfl ?_
  unfold w_Model_isItem at h
  refine gh_aload_n gd_Model_isItem_0 0 rfl (by decide) ?_
  refine gf_63_24 gd_Model_isItem_1 gh_k1394 hF rfl ?_
  obtain ⟨J36, hJ36, h⟩ := h
  have hJ36 : gh_F m → J36 → gh_T E (gh_yModel_isItem.cls, prog_14_method_80_code, 5, false, 0) (d + 3) 36 [(0, 2, 63), (1, 0, v1), (2, 0, v2), (3, 0, v3), (4, 0, v4)] [] m (fun r m1 => gh_F m1 ∧ Q r m1) := by
    intro hF hj
    have h := hJ36 hj
    refine gh_iload_n gd_Model_isItem_36 2 rfl ?_
    obtain ⟨hk, hA, hB⟩ := h
    have k3849 : (¬ (v2 < 0) ∧ (((m 63 24) = 0) ∨ (v2 ≤ (m 80 v1)))) → gh_T E (gh_yModel_isItem.cls, prog_14_method_80_code, 5, false, 0) (d + 3) 61 [(0, 2, 63), (1, 0, v1), (2, 0, v2), (3, 0, v3), (4, 0, v4)] [] m (fun r m1 => gh_F m1 ∧ Q r m1) := by
      intro c
      have h := hA c
      refine gh_aload_n gd_Model_isItem_61 0 rfl (by decide) ?_
      refine gf_63_24 gd_Model_isItem_62 gh_k1394 hF rfl ?_
      obtain ⟨hA, hB⟩ := h
      refine gh_zne (tgt := 72) gd_Model_isItem_65 (by decide) (fun c3851 => ?_) (fun c3851 => ?_)
      · have h := hA c3851
        refine gh_sipush gd_Model_isItem_68 (by decide) (gh_r0 rfl) ?_
        exact gh_ret0 rfl gd_Model_isItem_71 ⟨hF, h⟩
      · have h := hB c3851
        refine gh_aload_n gd_Model_isItem_72 0 rfl (by decide) ?_
        refine cv_Model_lay (d := d + 2) gd_Model_isItem_73 gh_k1899 hF (Nat.le_of_ble_eq_true rfl) (gh_C.mono (s_Model_lay d hF h) (fun r3852 m3853 hq => ?_))
        obtain ⟨hF, h⟩ := hq
        refine gh_aload_n gd_Model_isItem_76 0 rfl (by decide) ?_
        refine gh_iload_n gd_Model_isItem_77 1 rfl ?_
        refine gh_iload_n gd_Model_isItem_78 2 rfl ?_
        refine gh_iload_n gd_Model_isItem_79 3 rfl ?_
        refine gh_iload gd_Model_isItem_80 4 rfl ?_
        obtain ⟨q3854, h⟩ := h
        refine cv_Model_isItemAt (d := d + 2) gd_Model_isItem_82 gh_k1930 hF (Nat.le_of_ble_eq_true rfl) (gh_C.pe (e_Model_isItemAt (d + 1) v1 v2 v3 v4 hF q3854) ?_)
        refine cv_Model_bit (d := d + 2) gd_Model_isItem_85 gh_k1820 (Nat.le_of_ble_eq_true rfl) (gh_C.pe (eb_Model_bit (d + 2) (P := p_Model_isItemAt v1 v2 v3 v4 m3853)) ?_)
        exact gh_ret0 rfl gd_Model_isItem_88 ⟨hF, h⟩
    have k3850 : ¬ (¬ (v2 < 0) ∧ (((m 63 24) = 0) ∨ (v2 ≤ (m 80 v1)))) → gh_T E (gh_yModel_isItem.cls, prog_14_method_80_code, 5, false, 0) (d + 3) 57 [(0, 2, 63), (1, 0, v1), (2, 0, v2), (3, 0, v3), (4, 0, v4)] [] m (fun r m1 => gh_F m1 ∧ Q r m1) := by
      intro c
      have h := hB c
      refine gh_sipush gd_Model_isItem_57 (by decide) (gh_r0 rfl) ?_
      exact gh_ret0 rfl gd_Model_isItem_60 ⟨hF, h⟩
    refine gh_zlt (tgt := 57) gd_Model_isItem_37 (by decide) (fun c3855 => ?_) (fun c3855 => ?_)
    · have hz : True := trivial
      exact k3850 (fun z => z.1 c3855)
    · have hz : True := trivial
      have hk := hk c3855
      refine gh_aload_n gd_Model_isItem_40 0 rfl (by decide) ?_
      refine gf_63_24 gd_Model_isItem_41 gh_k1394 hF rfl ?_
      refine gh_zeq (tgt := 61) gd_Model_isItem_44 (by decide) (fun c3856 => ?_) (fun c3856 => ?_)
      · have hz : True := trivial
        exact k3849 ⟨c3855, (Or.inl c3856)⟩
      · have hz : True := trivial
        have hk := hk c3856
        refine gh_iload_n gd_Model_isItem_47 2 rfl ?_
        refine gh_aload_n gd_Model_isItem_48 0 rfl (by decide) ?_
        refine gf_63_33 gd_Model_isItem_49 gh_k1403 hF ?_
        refine gh_iload_n gd_Model_isItem_52 1 rfl ?_
        obtain ⟨q3847, hk⟩ := hk
        have q3848 := hk
        refine la_80 gd_Model_isItem_53 hF q3847 q3848 rfl ?_
        refine gh_jle (tgt := 61) gd_Model_isItem_54 (by decide) (fun c3857 => ?_) (fun c3857 => ?_)
        · have hz : True := trivial
          exact k3849 ⟨c3855, (Or.inr c3857)⟩
        · have hz : True := trivial
          exact k3850 (fun z => (fun z => z.elim c3856 c3857) z.2)
  obtain ⟨hk, hA, hB⟩ := h
  have k3859 : (((m 63 24) = 0) ∨ ((p_Model_isRule v1 m) ∧ ((p_Model_isPlace v3 m) ∧ (p_Model_isPlace v4 m)))) → gh_T E (gh_yModel_isItem.cls, prog_14_method_80_code, 5, false, 0) (d + 3) 36 [(0, 2, 63), (1, 0, v1), (2, 0, v2), (3, 0, v3), (4, 0, v4)] [] m (fun r m1 => gh_F m1 ∧ Q r m1) := by
    intro c
    have h := hA c
    exact hJ36 hF h
  have k3860 : ¬ (((m 63 24) = 0) ∨ ((p_Model_isRule v1 m) ∧ ((p_Model_isPlace v3 m) ∧ (p_Model_isPlace v4 m)))) → gh_T E (gh_yModel_isItem.cls, prog_14_method_80_code, 5, false, 0) (d + 3) 32 [(0, 2, 63), (1, 0, v1), (2, 0, v2), (3, 0, v3), (4, 0, v4)] [] m (fun r m1 => gh_F m1 ∧ Q r m1) := by
    intro c
    have h := hB c
    refine gh_sipush gd_Model_isItem_32 (by decide) (gh_r0 rfl) ?_
    exact gh_ret0 rfl gd_Model_isItem_35 ⟨hF, h⟩
  refine gh_zeq (tgt := 36) gd_Model_isItem_4 (by decide) (fun c3861 => ?_) (fun c3861 => ?_)
  · have hz : True := trivial
    exact k3859 (Or.inl c3861)
  · have hz : True := trivial
    have hk := hk c3861
    refine gh_aload_n gd_Model_isItem_7 0 rfl (by decide) ?_
    refine gh_iload_n gd_Model_isItem_8 1 rfl ?_
    have q3858 := hk
    refine cv_Model_isRule (d := d + 2) gd_Model_isItem_9 gh_k1835 hF (Nat.le_of_ble_eq_true rfl) (gh_C.pe (e_Model_isRule (d + 1) v1 hF q3858) ?_)
    refine gh_beq (tgt := 32) gd_Model_isItem_12 (by decide) (fun c3862 => ?_) (fun c3862 => ?_)
    · have hz : True := trivial
      refine gh_aload_n gd_Model_isItem_15 0 rfl (by decide) ?_
      refine gh_iload_n gd_Model_isItem_16 3 rfl ?_
      refine cv_Model_isPlace (d := d + 2) gd_Model_isItem_17 gh_k1875 hF (Nat.le_of_ble_eq_true rfl) (gh_C.pe (e_Model_isPlace (d + 1) v3 hF) ?_)
      refine gh_beq (tgt := 32) gd_Model_isItem_20 (by decide) (fun c3863 => ?_) (fun c3863 => ?_)
      · have hz : True := trivial
        refine gh_aload_n gd_Model_isItem_23 0 rfl (by decide) ?_
        refine gh_iload gd_Model_isItem_24 4 rfl ?_
        refine cv_Model_isPlace (d := d + 2) gd_Model_isItem_26 gh_k1875 hF (Nat.le_of_ble_eq_true rfl) (gh_C.pe (e_Model_isPlace (d + 1) v4 hF) ?_)
        refine gh_bne (tgt := 36) gd_Model_isItem_29 (by decide) (fun c3864 => ?_) (fun c3864 => ?_)
        · have hz : True := trivial
          exact k3859 (Or.inr ⟨c3862, ⟨c3863, c3864⟩⟩)
        · have hz : True := trivial
          exact k3860 (fun z => z.elim c3861 (fun z => (fun z => c3864 z.2) z.2))
      · have hz : True := trivial
        exact k3860 (fun z => z.elim c3861 (fun z => (fun z => c3863 z.1) z.2))
    · have hz : True := trivial
      exact k3860 (fun z => z.elim c3861 (fun z => c3862 z.1))
def w_Model_makes (v1 : Int) (v2 : Int) (v3 : Int) (m : gh_M) (Q : Int → gh_M → Prop) : Prop := ∃ J35 : Prop, (J35 → ((v2 ≤ v3 → (((m 63 24) = 0 → Q (-1003) m) ∧ (¬ ((m 63 24) = 0) → w_Model_lay m (fun _ m3868 => gh_i (81 * v1) ∧ gh_i (9 * v2) ∧ gh_i ((81 * v1) + (9 * v2)) ∧ gh_i (((81 * v1) + (9 * v2)) + v3) ∧ 0 ≤ ((81 * v1) + (9 * v2)) + v3 ∧ (((81 * v1) + (9 * v2)) + v3) < 648 ∧ Q (if p_Model_bit (m3868 97 (((81 * v1) + (9 * v2)) + v3)) then (1:Int) else 0) m3868)))) ∧ (¬ (v2 ≤ v3) → Q (-1002) m))) ∧ ((¬ ((m 63 24) = 0) → (k_Model_isName v1 m))) ∧ (((((m 63 24) = 0) ∨ ((p_Model_isName v1 m) ∧ ((p_Model_isPlace v2 m) ∧ (p_Model_isPlace v3 m)))) → J35) ∧ (¬ (((m 63 24) = 0) ∨ ((p_Model_isName v1 m) ∧ ((p_Model_isPlace v2 m) ∧ (p_Model_isPlace v3 m)))) → Q (-1001) m))
theorem s_Model_makes {E : gh_E} {m : gh_M} {Q : Int → gh_M → Prop} (d : Nat) (v1 : Int) (v2 : Int) (v3 : Int) (hF : gh_F m) (h : w_Model_makes v1 v2 v3 m Q) : gh_C E gh_yModel_makes prog_14_method_81_code 4 (some .int) 0 (d + 3) [(2, 63), (0, v1), (0, v2), (0, v3)] m (fun r m1 => gh_F m1 ∧ Q r m1) := by
  refine gh_enter2 (L := [(0, 2, 63), (1, 0, v1), (2, 0, v2), (3, 0, v3)]) (by decide +kernel) gh_rt0 (Nat.le_of_ble_eq_true rfl) rfl rfl ?_
  unfold w_Model_makes at h
  refine gh_aload_n gd_Model_makes_0 0 rfl (by decide) ?_
  refine gf_63_24 gd_Model_makes_1 gh_k1394 hF rfl ?_
  obtain ⟨J35, hJ35, h⟩ := h
  have hJ35 : gh_F m → J35 → gh_T E (gh_yModel_makes.cls, prog_14_method_81_code, 4, false, 0) (d + 3) 35 [(0, 2, 63), (1, 0, v1), (2, 0, v2), (3, 0, v3)] [] m (fun r m1 => gh_F m1 ∧ Q r m1) := by
    intro hF hj
    have h := hJ35 hj
    refine gh_iload_n gd_Model_makes_35 2 rfl ?_
    refine gh_iload_n gd_Model_makes_36 3 rfl ?_
    obtain ⟨hA, hB⟩ := h
    refine gh_jle (tgt := 44) gd_Model_makes_37 (by decide) (fun c3865 => ?_) (fun c3865 => ?_)
    · have h := hA c3865
      refine gh_aload_n gd_Model_makes_44 0 rfl (by decide) ?_
      refine gf_63_24 gd_Model_makes_45 gh_k1394 hF rfl ?_
      obtain ⟨hA, hB⟩ := h
      refine gh_zne (tgt := 55) gd_Model_makes_48 (by decide) (fun c3866 => ?_) (fun c3866 => ?_)
      · have h := hA c3866
        refine gh_sipush gd_Model_makes_51 (by decide) (gh_r0 rfl) ?_
        exact gh_ret0 rfl gd_Model_makes_54 ⟨hF, h⟩
      · have h := hB c3866
        refine gh_aload_n gd_Model_makes_55 0 rfl (by decide) ?_
        refine cv_Model_lay (d := d + 2) gd_Model_makes_56 gh_k1899 hF (Nat.le_of_ble_eq_true rfl) (gh_C.mono (s_Model_lay d hF h) (fun r3867 m3868 hq => ?_))
        obtain ⟨hF, h⟩ := hq
        refine gh_aload_n gd_Model_makes_59 0 rfl (by decide) ?_
        refine gf_63_53 gd_Model_makes_60 gh_k1423 hF ?_
        refine gh_bipush gd_Model_makes_63 (by decide) (gh_r0 rfl) ?_
        refine gh_iload_n gd_Model_makes_65 1 rfl ?_
        obtain ⟨q3869, h⟩ := h
        refine gh_imul gd_Model_makes_66 q3869 ?_
        refine gh_bipush gd_Model_makes_67 (by decide) (gh_r0 rfl) ?_
        refine gh_iload_n gd_Model_makes_69 2 rfl ?_
        obtain ⟨q3870, h⟩ := h
        refine gh_imul gd_Model_makes_70 q3870 ?_
        obtain ⟨q3871, h⟩ := h
        refine gh_iadd gd_Model_makes_71 q3871 ?_
        refine gh_iload_n gd_Model_makes_72 3 rfl ?_
        obtain ⟨q3872, h⟩ := h
        refine gh_iadd gd_Model_makes_73 q3872 ?_
        obtain ⟨q3873, h⟩ := h
        obtain ⟨q3874, h⟩ := h
        refine la_97 gd_Model_makes_74 hF q3873 q3874 rfl ?_
        refine cv_Model_bit (d := d + 2) gd_Model_makes_75 gh_k1820 (Nat.le_of_ble_eq_true rfl) (gh_C.pe (e_Model_bit (d + 2) (m3868 97 (((81 * v1) + (9 * v2)) + v3))) ?_)
        exact gh_ret0 rfl gd_Model_makes_78 ⟨hF, h⟩
    · have h := hB c3865
      refine gh_sipush gd_Model_makes_40 (by decide) (gh_r0 rfl) ?_
      exact gh_ret0 rfl gd_Model_makes_43 ⟨hF, h⟩
  obtain ⟨hk, hA, hB⟩ := h
  have k3876 : (((m 63 24) = 0) ∨ ((p_Model_isName v1 m) ∧ ((p_Model_isPlace v2 m) ∧ (p_Model_isPlace v3 m)))) → gh_T E (gh_yModel_makes.cls, prog_14_method_81_code, 4, false, 0) (d + 3) 35 [(0, 2, 63), (1, 0, v1), (2, 0, v2), (3, 0, v3)] [] m (fun r m1 => gh_F m1 ∧ Q r m1) := by
    intro c
    have h := hA c
    exact hJ35 hF h
  have k3877 : ¬ (((m 63 24) = 0) ∨ ((p_Model_isName v1 m) ∧ ((p_Model_isPlace v2 m) ∧ (p_Model_isPlace v3 m)))) → gh_T E (gh_yModel_makes.cls, prog_14_method_81_code, 4, false, 0) (d + 3) 31 [(0, 2, 63), (1, 0, v1), (2, 0, v2), (3, 0, v3)] [] m (fun r m1 => gh_F m1 ∧ Q r m1) := by
    intro c
    have h := hB c
    refine gh_sipush gd_Model_makes_31 (by decide) (gh_r0 rfl) ?_
    exact gh_ret0 rfl gd_Model_makes_34 ⟨hF, h⟩
  refine gh_zeq (tgt := 35) gd_Model_makes_4 (by decide) (fun c3878 => ?_) (fun c3878 => ?_)
  · have hz : True := trivial
    exact k3876 (Or.inl c3878)
  · have hz : True := trivial
    have hk := hk c3878
    refine gh_aload_n gd_Model_makes_7 0 rfl (by decide) ?_
    refine gh_iload_n gd_Model_makes_8 1 rfl ?_
    have q3875 := hk
    refine cv_Model_isName (d := d + 2) gd_Model_makes_9 gh_k1816 hF (Nat.le_of_ble_eq_true rfl) (gh_C.pe (e_Model_isName (d + 1) v1 hF q3875) ?_)
    refine gh_beq (tgt := 31) gd_Model_makes_12 (by decide) (fun c3879 => ?_) (fun c3879 => ?_)
    · have hz : True := trivial
      refine gh_aload_n gd_Model_makes_15 0 rfl (by decide) ?_
      refine gh_iload_n gd_Model_makes_16 2 rfl ?_
      refine cv_Model_isPlace (d := d + 2) gd_Model_makes_17 gh_k1875 hF (Nat.le_of_ble_eq_true rfl) (gh_C.pe (e_Model_isPlace (d + 1) v2 hF) ?_)
      refine gh_beq (tgt := 31) gd_Model_makes_20 (by decide) (fun c3880 => ?_) (fun c3880 => ?_)
      · have hz : True := trivial
        refine gh_aload_n gd_Model_makes_23 0 rfl (by decide) ?_
        refine gh_iload_n gd_Model_makes_24 3 rfl ?_
        refine cv_Model_isPlace (d := d + 2) gd_Model_makes_25 gh_k1875 hF (Nat.le_of_ble_eq_true rfl) (gh_C.pe (e_Model_isPlace (d + 1) v3 hF) ?_)
        refine gh_bne (tgt := 35) gd_Model_makes_28 (by decide) (fun c3881 => ?_) (fun c3881 => ?_)
        · have hz : True := trivial
          exact k3876 (Or.inr ⟨c3879, ⟨c3880, c3881⟩⟩)
        · have hz : True := trivial
          exact k3877 (fun z => z.elim c3878 (fun z => (fun z => c3881 z.2) z.2))
      · have hz : True := trivial
        exact k3877 (fun z => z.elim c3878 (fun z => (fun z => c3880 z.1) z.2))
    · have hz : True := trivial
      exact k3877 (fun z => z.elim c3878 (fun z => c3879 z.1))
def f_Model_findWants_128 (v1 : Int) (v3 : Int) (v4 : Int) (v5 : Int) (v6 : Int) (v7 : Int) (K64 : Int → Int → gh_M → Prop) (K128 : Int → Int → gh_M → Prop) (v2 : Int) (v8 : Int) (m : gh_M) : Prop := ((v8 ≤ v1 → 0 ≤ v3 ∧ v3 < 80 ∧ gh_i ((-1) - (m 81 v3)) ∧ gh_i (9 * ((-1) - (m 81 v3))) ∧ gh_i ((9 * ((-1) - (m 81 v3))) + v8) ∧ ∀ v9 : Int, v9 = (9 * ((-1) - (m 81 v3))) + v8 → (gh_i (405 * v4) ∧ gh_i (81 * v5) ∧ gh_i ((405 * v4) + (81 * v5)) ∧ gh_i (9 * v6) ∧ gh_i (((405 * v4) + (81 * v5)) + (9 * v6)) ∧ gh_i ((((405 * v4) + (81 * v5)) + (9 * v6)) + v8)) ∧ 0 ≤ ((((405 * v4) + (81 * v5)) + (9 * v6)) + v8) ∧ (((((405 * v4) + (81 * v5)) + (9 * v6)) + v8)) < 8100 ∧ ∃ J192 : Int → gh_M → Prop, (∀ (v2' : Int) (m : gh_M), J192 v2' m → gh_i (v8 + 1) ∧ K128 v2' (v8 + 1) m) ∧ ((¬ ((m 98 (((((405 * v4) + (81 * v5)) + (9 * v6)) + v8))) = 0) → (0 ≤ v9 ∧ v9 < 72))) ∧ (((¬ ((m 98 (((((405 * v4) + (81 * v5)) + (9 * v6)) + v8))) = 0) ∧ (v7 < (m 101 v9))) → 0 ≤ v9 ∧ v9 < 72 ∧ J192 1 (gh_u m 101 v9 v7)) ∧ (¬ (¬ ((m 98 (((((405 * v4) + (81 * v5)) + (9 * v6)) + v8))) = 0) ∧ (v7 < (m 101 v9))) → J192 v2 m))) ∧ (¬ (v8 ≤ v1) → gh_i (v6 + 1) ∧ K64 v2 (v6 + 1) m))
def f_Model_findWants_64 (v1 : Int) (v3 : Int) (v4 : Int) (v5 : Int) (K41 : Int → Int → gh_M → Prop) (K64 : Int → Int → gh_M → Prop) (v2 : Int) (v6 : Int) (m : gh_M) : Prop := ∃ J204 : Int → gh_M → Prop, (∀ (v2' : Int) (m : gh_M), J204 v2' m → gh_i (v3 + 1) ∧ K41 v2' (v3 + 1) m) ∧ (((v6 ≤ v1) → (0 ≤ v4 ∧ v4 < 20 ∧ ((v5 < (m 80 v4)) → (0 ≤ v3 ∧ v3 < 80))))) ∧ ((((v6 ≤ v1) ∧ ((v5 < (m 80 v4)) ∧ ((m 81 v3) < 0))) → gh_i (v5 + 1) ∧ w_Model_leastOf v4 (v5 + 1) m (fun r3902 => 0 ≤ v4 ∧ v4 < 20 ∧ gh_i (9 * (m 79 v4)) ∧ gh_i ((9 * (m 79 v4)) + v6) ∧ 0 ≤ (9 * (m 79 v4)) + v6 ∧ ((9 * (m 79 v4)) + v6) < 72 ∧ k_Model_sumOf r3902 (m 101 ((9 * (m 79 v4)) + v6)) ∧ ∀ v7 : Int, v7 = x_Model_sumOf r3902 (m 101 ((9 * (m 79 v4)) + v6)) → gh_M2 (fun K128 v2 v8 m => f_Model_findWants_128 v1 v3 v4 v5 v6 v7 K64 K128 v2 v8 m) v2 v6 m)) ∧ (¬ ((v6 ≤ v1) ∧ ((v5 < (m 80 v4)) ∧ ((m 81 v3) < 0))) → J204 v2 m))
def f_Model_findWants_41 (v1 : Int) (K33 : Int → gh_M → Prop) (K41 : Int → Int → gh_M → Prop) (v2 : Int) (v3 : Int) (m : gh_M) : Prop := gh_i (4 * (m 63 27)) ∧ ((v3 < (4 * (m 63 27)) → 0 ≤ v3 ∧ ∀ v4 : Int, v4 = v3 / 4 → 0 ≤ v3 ∧ ∀ v5 : Int, v5 = v3 % 4 → gh_M2 (fun K64 v2 v6 m => f_Model_findWants_64 v1 v3 v4 v5 K41 K64 v2 v6 m) v2 0 m) ∧ (¬ (v3 < (4 * (m 63 27))) → K33 v2 m))
def f_Model_findWants_33 (v1 : Int) (Q : Int → gh_M → Prop) (K33 : Int → gh_M → Prop) (v2 : Int) (m : gh_M) : Prop := ((v2 = 0 → Q 0 m) ∧ (¬ (v2 = 0) → gh_M2 (fun K41 v2 v3 m => f_Model_findWants_41 v1 K33 K41 v2 v3 m) 0 0 m))
def f_Model_findWants_2 (v1 : Int) (Q : Int → gh_M → Prop) (K2 : Int → gh_M → Prop) (v2 : Int) (m : gh_M) : Prop := ((v2 < 72 → 0 ≤ v2 ∧ v2 < 72 ∧ gh_i (v2 + 1) ∧ K2 (v2 + 1) (gh_u m 101 v2 (if v2 = 0 then 0 else 1000000000))) ∧ (¬ (v2 < 72) → gh_M1 (fun K33 v2 m => f_Model_findWants_33 v1 Q K33 v2 m) 1 m))
def w_Model_findWants (v1 : Int) (m : gh_M) (Q : Int → gh_M → Prop) : Prop := gh_M1 (fun K2 v2 m => f_Model_findWants_2 v1 Q K2 v2 m) 0 m
theorem b_Model_findWants_128 {E : gh_E} {v1 : Int} {v3 : Int} {v4 : Int} {v5 : Int} {v6 : Int} {v7 : Int} {K64 : Int → Int → gh_M → Prop} {Q : Int → gh_M → Prop} {K128 : Int → Int → gh_M → Prop} (d : Nat) (hK64 : ∀ (v2 : Int) (v6 : Int) (m : gh_M), gh_F m → K64 v2 v6 m → gh_T E (gh_yModel_findWants.cls, prog_14_method_83_code, 10, false, 9) (d + 1) 64 [(0, 2, 63), (1, 0, v1), (2, 0, v2), (3, 0, v3), (4, 0, v4), (5, 0, v5), (6, 0, v6)] [] m (fun r m1 => gh_F m1 ∧ Q r m1)) (hK : ∀ (v2 : Int) (v8 : Int) (m : gh_M), gh_F m → K128 v2 v8 m → gh_T E (gh_yModel_findWants.cls, prog_14_method_83_code, 10, false, 9) (d + 1) 128 [(0, 2, 63), (1, 0, v1), (2, 0, v2), (3, 0, v3), (4, 0, v4), (5, 0, v5), (6, 0, v6), (7, 0, v7), (8, 0, v8)] [] m (fun r m1 => gh_F m1 ∧ Q r m1)) (v2 : Int) (v8 : Int) (m : gh_M) (hF : gh_F m) (h : f_Model_findWants_128 v1 v3 v4 v5 v6 v7 K64 K128 v2 v8 m) : gh_T E (gh_yModel_findWants.cls, prog_14_method_83_code, 10, false, 9) (d + 1) 128 [(0, 2, 63), (1, 0, v1), (2, 0, v2), (3, 0, v3), (4, 0, v4), (5, 0, v5), (6, 0, v6), (7, 0, v7), (8, 0, v8)] [] m (fun r m1 => gh_F m1 ∧ Q r m1) := by
  have hK128 := hK
  unfold f_Model_findWants_128 at h
  refine gh_iload gd_Model_findWants_128 8 rfl ?_
  refine gh_iload_n gd_Model_findWants_130 1 rfl ?_
  obtain ⟨hA, hB⟩ := h
  refine gh_jgt (tgt := 198) gd_Model_findWants_131 (by decide) (fun c3911 => ?_) (fun c3911 => ?_)
  · have h := hA c3911
    refine gh_bipush gd_Model_findWants_134 (by decide) (gh_r0 rfl) ?_
    refine gh_iconst gd_Model_findWants_136 (gh_r0 rfl) ?_
    refine gh_aload_n gd_Model_findWants_137 0 rfl (by decide) ?_
    refine gf_63_34 gd_Model_findWants_138 gh_k1404 hF ?_
    refine gh_iload_n gd_Model_findWants_141 3 rfl ?_
    obtain ⟨q3912, h⟩ := h
    obtain ⟨q3913, h⟩ := h
    refine la_81 gd_Model_findWants_142 hF q3912 q3913 rfl ?_
    obtain ⟨q3914, h⟩ := h
    refine gh_isub gd_Model_findWants_143 q3914 ?_
    obtain ⟨q3915, h⟩ := h
    refine gh_imul gd_Model_findWants_144 q3915 ?_
    refine gh_iload gd_Model_findWants_145 8 rfl ?_
    obtain ⟨q3916, h⟩ := h
    refine gh_iadd gd_Model_findWants_147 q3916 ?_
    refine gh_name (fun v9 hn => ?_)
    have h := h v9 hn
    refine gh_istore (L2 := [(9, 0, v9), (0, 2, 63), (1, 0, v1), (2, 0, v2), (3, 0, v3), (4, 0, v4), (5, 0, v5), (6, 0, v6), (7, 0, v7), (8, 0, v8)]) gd_Model_findWants_148 (by decide) rfl ?_
    refine gh_aload_n gd_Model_findWants_150 1 rfl (by decide) ?_
    refine gf_63_54 gd_Model_findWants_151 gh_k1424 hF ?_
    refine gh_iload gd_Model_findWants_154 5 rfl ?_
    refine gh_iload gd_Model_findWants_156 6 rfl ?_
    refine gh_iload gd_Model_findWants_158 7 rfl ?_
    refine gh_iload gd_Model_findWants_160 9 rfl ?_
    obtain ⟨q3917, h⟩ := h
    refine cv_Model_begun (d := d) gd_Model_findWants_162 gh_k1907 (Nat.le_of_ble_eq_true rfl) (gh_C.pe (e_Model_begun d v4 v5 v6 v8 q3917) ?_)
    obtain ⟨q3918, h⟩ := h
    obtain ⟨q3919, h⟩ := h
    refine la_98 gd_Model_findWants_165 hF q3918 q3919 rfl ?_
    obtain ⟨J192, hJ192, h⟩ := h
    have hJ192 : ∀ (v2' : Int) (m : gh_M), gh_F m → J192 v2' m → gh_T E (gh_yModel_findWants.cls, prog_14_method_83_code, 10, false, 9) (d + 1) 192 [(0, 2, 63), (1, 0, v1), (2, 0, v2'), (3, 0, v3), (4, 0, v4), (5, 0, v5), (6, 0, v6), (7, 0, v7), (8, 0, v8)] [] m (fun r m1 => gh_F m1 ∧ Q r m1) := by
      intro v2' m hF hj
      have h := hJ192 v2' m hj
      obtain ⟨q3920, h⟩ := h
      refine gh_iinc (L2 := [(8, 0, v8 + 1), (0, 2, 63), (1, 0, v1), (2, 0, v2'), (3, 0, v3), (4, 0, v4), (5, 0, v5), (6, 0, v6), (7, 0, v7)]) gd_Model_findWants_192 8 rfl q3920 (by decide) rfl ?_
      refine gh_goto (tgt := 128) gd_Model_findWants_195 (by decide) ?_
      refine gh_pick (L2 := [(0, 2, 63), (1, 0, v1), (2, 0, v2'), (3, 0, v3), (4, 0, v4), (5, 0, v5), (6, 0, v6), (7, 0, v7), (8, 0, v8 + 1)]) [1, 2, 3, 4, 5, 6, 7, 8, 0] rfl ?_
      exact hK128 v2' (v8 + 1) m hF h
    obtain ⟨hk, hA, hB⟩ := h
    have k3923 : (¬ ((m 98 (((((405 * v4) + (81 * v5)) + (9 * v6)) + v8))) = 0) ∧ (v7 < (m 101 v9))) → gh_T E (gh_yModel_findWants.cls, prog_14_method_83_code, 10, false, 9) (d + 1) 181 [(9, 0, v9), (0, 2, 63), (1, 0, v1), (2, 0, v2), (3, 0, v3), (4, 0, v4), (5, 0, v5), (6, 0, v6), (7, 0, v7), (8, 0, v8)] [] m (fun r m1 => gh_F m1 ∧ Q r m1) := by
      intro c
      have h := hA c
      refine gh_aload_n gd_Model_findWants_181 1 rfl (by decide) ?_
      refine gf_63_57 gd_Model_findWants_182 gh_k1427 hF ?_
      refine gh_iload gd_Model_findWants_185 0 rfl ?_
      refine gh_iload gd_Model_findWants_187 8 rfl ?_
      obtain ⟨q3925, h⟩ := h
      obtain ⟨q3926, h⟩ := h
      refine sa_101 gd_Model_findWants_189 hF q3925 q3926 (fun hF => ?_)
      refine gh_iconst gd_Model_findWants_190 (gh_r0 rfl) ?_
      refine gh_istore_n (L2 := [(2, 0, 1), (9, 0, v9), (0, 2, 63), (1, 0, v1), (3, 0, v3), (4, 0, v4), (5, 0, v5), (6, 0, v6), (7, 0, v7), (8, 0, v8)]) gd_Model_findWants_191 (by decide) rfl ?_
      refine gh_pick (L2 := [(0, 2, 63), (1, 0, v1), (2, 0, 1), (3, 0, v3), (4, 0, v4), (5, 0, v5), (6, 0, v6), (7, 0, v7), (8, 0, v8)]) [2, 3, 0, 4, 5, 6, 7, 8, 9] rfl ?_
      exact hJ192 1 (gh_u m 101 v9 v7) hF h
    have k3924 : ¬ (¬ ((m 98 (((((405 * v4) + (81 * v5)) + (9 * v6)) + v8))) = 0) ∧ (v7 < (m 101 v9))) → gh_T E (gh_yModel_findWants.cls, prog_14_method_83_code, 10, false, 9) (d + 1) 192 [(9, 0, v9), (0, 2, 63), (1, 0, v1), (2, 0, v2), (3, 0, v3), (4, 0, v4), (5, 0, v5), (6, 0, v6), (7, 0, v7), (8, 0, v8)] [] m (fun r m1 => gh_F m1 ∧ Q r m1) := by
      intro c
      have h := hB c
      refine gh_pick (L2 := [(0, 2, 63), (1, 0, v1), (2, 0, v2), (3, 0, v3), (4, 0, v4), (5, 0, v5), (6, 0, v6), (7, 0, v7), (8, 0, v8)]) [1, 2, 3, 4, 5, 6, 7, 8, 9] rfl ?_
      exact hJ192 v2 m hF h
    refine gh_zeq (tgt := 192) gd_Model_findWants_166 (by decide) (fun c3927 => ?_) (fun c3927 => ?_)
    · have hz : True := trivial
      exact k3924 (fun z => z.1 c3927)
    · have hz : True := trivial
      have hk := hk c3927
      refine gh_iload gd_Model_findWants_169 8 rfl ?_
      refine gh_aload_n gd_Model_findWants_171 1 rfl (by decide) ?_
      refine gf_63_57 gd_Model_findWants_172 gh_k1427 hF ?_
      refine gh_iload gd_Model_findWants_175 0 rfl ?_
      obtain ⟨q3921, hk⟩ := hk
      have q3922 := hk
      refine la_101 gd_Model_findWants_177 hF q3921 q3922 rfl ?_
      refine gh_jge (tgt := 192) gd_Model_findWants_178 (by decide) (fun c3928 => ?_) (fun c3928 => ?_)
      · have hz : True := trivial
        exact k3923 ⟨c3927, c3928⟩
      · have hz : True := trivial
        exact k3924 (fun z => c3928 z.2)
  · have h := hB c3911
    obtain ⟨q3929, h⟩ := h
    refine gh_iinc (L2 := [(6, 0, v6 + 1), (0, 2, 63), (1, 0, v1), (2, 0, v2), (3, 0, v3), (4, 0, v4), (5, 0, v5), (7, 0, v7), (8, 0, v8)]) gd_Model_findWants_198 6 rfl q3929 (by decide) rfl ?_
    refine gh_goto (tgt := 64) gd_Model_findWants_201 (by decide) ?_
    refine gh_pick (L2 := [(0, 2, 63), (1, 0, v1), (2, 0, v2), (3, 0, v3), (4, 0, v4), (5, 0, v5), (6, 0, v6 + 1)]) [1, 2, 3, 4, 5, 6, 0] rfl ?_
    exact hK64 v2 (v6 + 1) m hF h
theorem b_Model_findWants_64 {E : gh_E} {v1 : Int} {v3 : Int} {v4 : Int} {v5 : Int} {K41 : Int → Int → gh_M → Prop} {Q : Int → gh_M → Prop} {K64 : Int → Int → gh_M → Prop} (d : Nat) (hK41 : ∀ (v2 : Int) (v3 : Int) (m : gh_M), gh_F m → K41 v2 v3 m → gh_T E (gh_yModel_findWants.cls, prog_14_method_83_code, 10, false, 9) (d + 1) 41 [(0, 2, 63), (1, 0, v1), (2, 0, v2), (3, 0, v3)] [] m (fun r m1 => gh_F m1 ∧ Q r m1)) (hK : ∀ (v2 : Int) (v6 : Int) (m : gh_M), gh_F m → K64 v2 v6 m → gh_T E (gh_yModel_findWants.cls, prog_14_method_83_code, 10, false, 9) (d + 1) 64 [(0, 2, 63), (1, 0, v1), (2, 0, v2), (3, 0, v3), (4, 0, v4), (5, 0, v5), (6, 0, v6)] [] m (fun r m1 => gh_F m1 ∧ Q r m1)) (v2 : Int) (v6 : Int) (m : gh_M) (hF : gh_F m) (h : f_Model_findWants_64 v1 v3 v4 v5 K41 K64 v2 v6 m) : gh_T E (gh_yModel_findWants.cls, prog_14_method_83_code, 10, false, 9) (d + 1) 64 [(0, 2, 63), (1, 0, v1), (2, 0, v2), (3, 0, v3), (4, 0, v4), (5, 0, v5), (6, 0, v6)] [] m (fun r m1 => gh_F m1 ∧ Q r m1) := by
  have hK64 := hK
  unfold f_Model_findWants_64 at h
  refine gh_iload gd_Model_findWants_64 6 rfl ?_
  refine gh_iload_n gd_Model_findWants_66 1 rfl ?_
  obtain ⟨J204, hJ204, h⟩ := h
  have hJ204 : ∀ (v2' : Int) (m : gh_M), gh_F m → J204 v2' m → gh_T E (gh_yModel_findWants.cls, prog_14_method_83_code, 10, false, 9) (d + 1) 204 [(0, 2, 63), (1, 0, v1), (2, 0, v2'), (3, 0, v3)] [] m (fun r m1 => gh_F m1 ∧ Q r m1) := by
    intro v2' m hF hj
    have h := hJ204 v2' m hj
    obtain ⟨q3894, h⟩ := h
    refine gh_iinc (L2 := [(3, 0, v3 + 1), (0, 2, 63), (1, 0, v1), (2, 0, v2')]) gd_Model_findWants_204 3 rfl q3894 (by decide) rfl ?_
    refine gh_goto (tgt := 41) gd_Model_findWants_207 (by decide) ?_
    refine gh_pick (L2 := [(0, 2, 63), (1, 0, v1), (2, 0, v2'), (3, 0, v3 + 1)]) [1, 2, 3, 0] rfl ?_
    exact hK41 v2' (v3 + 1) m hF h
  obtain ⟨hk, hA, hB⟩ := h
  have k3899 : ((v6 ≤ v1) ∧ ((v5 < (m 80 v4)) ∧ ((m 81 v3) < 0))) → gh_T E (gh_yModel_findWants.cls, prog_14_method_83_code, 10, false, 9) (d + 1) 91 [(0, 2, 63), (1, 0, v1), (2, 0, v2), (3, 0, v3), (4, 0, v4), (5, 0, v5), (6, 0, v6)] [] m (fun r m1 => gh_F m1 ∧ Q r m1) := by
    intro c
    have h := hA c
    refine gh_aload_n gd_Model_findWants_91 0 rfl (by decide) ?_
    refine gh_iload gd_Model_findWants_92 4 rfl ?_
    refine gh_iload gd_Model_findWants_94 5 rfl ?_
    refine gh_iconst gd_Model_findWants_96 (gh_r0 rfl) ?_
    obtain ⟨q3901, h⟩ := h
    refine gh_iadd gd_Model_findWants_97 q3901 ?_
    refine cv_Model_leastOf (d := d) gd_Model_findWants_98 gh_k1745 hF (Nat.le_of_ble_eq_true rfl) (gh_C.pw (s_Model_leastOf d v4 (v5 + 1) hF h) (fun r3902 h => ?_))
    refine gh_aload_n gd_Model_findWants_101 0 rfl (by decide) ?_
    refine gf_63_57 gd_Model_findWants_102 gh_k1427 hF ?_
    refine gh_bipush gd_Model_findWants_105 (by decide) (gh_r0 rfl) ?_
    refine gh_aload_n gd_Model_findWants_107 0 rfl (by decide) ?_
    refine gf_63_32 gd_Model_findWants_108 gh_k1402 hF ?_
    refine gh_iload gd_Model_findWants_111 4 rfl ?_
    obtain ⟨q3904, h⟩ := h
    obtain ⟨q3905, h⟩ := h
    refine la_79 gd_Model_findWants_113 hF q3904 q3905 rfl ?_
    obtain ⟨q3906, h⟩ := h
    refine gh_imul gd_Model_findWants_114 q3906 ?_
    refine gh_iload gd_Model_findWants_115 6 rfl ?_
    obtain ⟨q3907, h⟩ := h
    refine gh_iadd gd_Model_findWants_117 q3907 ?_
    obtain ⟨q3908, h⟩ := h
    obtain ⟨q3909, h⟩ := h
    refine la_101 gd_Model_findWants_118 hF q3908 q3909 rfl ?_
    obtain ⟨q3910, h⟩ := h
    refine cv_Model_sumOf (d := d) gd_Model_findWants_119 gh_k1950 (Nat.le_of_ble_eq_true rfl) (gh_C.pe (e_Model_sumOf d r3902 (m 101 ((9 * (m 79 v4)) + v6)) q3910) ?_)
    refine gh_name (fun v7 hn => ?_)
    have h := h v7 hn
    refine gh_istore (L2 := [(7, 0, v7), (0, 2, 63), (1, 0, v1), (2, 0, v2), (3, 0, v3), (4, 0, v4), (5, 0, v5), (6, 0, v6)]) gd_Model_findWants_122 (by decide) rfl ?_
    refine gh_iload gd_Model_findWants_124 7 rfl ?_
    refine gh_istore (L2 := [(8, 0, v6), (7, 0, v7), (0, 2, 63), (1, 0, v1), (2, 0, v2), (3, 0, v3), (4, 0, v4), (5, 0, v5), (6, 0, v6)]) gd_Model_findWants_126 (by decide) rfl ?_
    refine gh_pick (L2 := [(0, 2, 63), (1, 0, v1), (2, 0, v2), (3, 0, v3), (4, 0, v4), (5, 0, v5), (6, 0, v6), (7, 0, v7), (8, 0, v6)]) [2, 3, 4, 5, 6, 7, 8, 1, 0] rfl ?_
    exact gh_M2_sound (T := fun v2 v8 m => gh_T E (gh_yModel_findWants.cls, prog_14_method_83_code, 10, false, 9) (d + 1) 128 [(0, 2, 63), (1, 0, v1), (2, 0, v2), (3, 0, v3), (4, 0, v4), (5, 0, v5), (6, 0, v6), (7, 0, v7), (8, 0, v8)] [] m (fun r m1 => gh_F m1 ∧ Q r m1)) (fun _ _ m => gh_F m) (fun K128 v2 v8 m hK hF h => b_Model_findWants_128 d hK64 hK v2 v8 m hF h) v2 v6 m hF h
  have k3900 : ¬ ((v6 ≤ v1) ∧ ((v5 < (m 80 v4)) ∧ ((m 81 v3) < 0))) → gh_T E (gh_yModel_findWants.cls, prog_14_method_83_code, 10, false, 9) (d + 1) 204 [(0, 2, 63), (1, 0, v1), (2, 0, v2), (3, 0, v3), (4, 0, v4), (5, 0, v5), (6, 0, v6)] [] m (fun r m1 => gh_F m1 ∧ Q r m1) := by
    intro c
    have h := hB c
    refine gh_pick (L2 := [(0, 2, 63), (1, 0, v1), (2, 0, v2), (3, 0, v3)]) [0, 1, 2, 3] rfl ?_
    exact hJ204 v2 m hF h
  refine gh_jgt (tgt := 204) gd_Model_findWants_67 (by decide) (fun c3930 => ?_) (fun c3930 => ?_)
  · have hz : True := trivial
    have hk := hk c3930
    refine gh_iload gd_Model_findWants_70 5 rfl ?_
    refine gh_aload_n gd_Model_findWants_72 0 rfl (by decide) ?_
    refine gf_63_33 gd_Model_findWants_73 gh_k1403 hF ?_
    refine gh_iload gd_Model_findWants_76 4 rfl ?_
    obtain ⟨q3895, hk⟩ := hk
    obtain ⟨q3896, hk⟩ := hk
    refine la_80 gd_Model_findWants_78 hF q3895 q3896 rfl ?_
    refine gh_jge (tgt := 204) gd_Model_findWants_79 (by decide) (fun c3931 => ?_) (fun c3931 => ?_)
    · have hz : True := trivial
      have hk := hk c3931
      refine gh_aload_n gd_Model_findWants_82 0 rfl (by decide) ?_
      refine gf_63_34 gd_Model_findWants_83 gh_k1404 hF ?_
      refine gh_iload_n gd_Model_findWants_86 3 rfl ?_
      obtain ⟨q3897, hk⟩ := hk
      have q3898 := hk
      refine la_81 gd_Model_findWants_87 hF q3897 q3898 rfl ?_
      refine gh_zge (tgt := 204) gd_Model_findWants_88 (by decide) (fun c3932 => ?_) (fun c3932 => ?_)
      · have hz : True := trivial
        exact k3899 ⟨c3930, ⟨c3931, c3932⟩⟩
      · have hz : True := trivial
        exact k3900 (fun z => (fun z => c3932 z.2) z.2)
    · have hz : True := trivial
      exact k3900 (fun z => (fun z => c3931 z.1) z.2)
  · have hz : True := trivial
    exact k3900 (fun z => c3930 z.1)
theorem b_Model_findWants_41 {E : gh_E} {v1 : Int} {K33 : Int → gh_M → Prop} {Q : Int → gh_M → Prop} {K41 : Int → Int → gh_M → Prop} (d : Nat) (hK33 : ∀ (v2 : Int) (m : gh_M), gh_F m → K33 v2 m → gh_T E (gh_yModel_findWants.cls, prog_14_method_83_code, 10, false, 9) (d + 1) 33 [(0, 2, 63), (1, 0, v1), (2, 0, v2)] [] m (fun r m1 => gh_F m1 ∧ Q r m1)) (hK : ∀ (v2 : Int) (v3 : Int) (m : gh_M), gh_F m → K41 v2 v3 m → gh_T E (gh_yModel_findWants.cls, prog_14_method_83_code, 10, false, 9) (d + 1) 41 [(0, 2, 63), (1, 0, v1), (2, 0, v2), (3, 0, v3)] [] m (fun r m1 => gh_F m1 ∧ Q r m1)) (v2 : Int) (v3 : Int) (m : gh_M) (hF : gh_F m) (h : f_Model_findWants_41 v1 K33 K41 v2 v3 m) : gh_T E (gh_yModel_findWants.cls, prog_14_method_83_code, 10, false, 9) (d + 1) 41 [(0, 2, 63), (1, 0, v1), (2, 0, v2), (3, 0, v3)] [] m (fun r m1 => gh_F m1 ∧ Q r m1) := by
  have hK41 := hK
  unfold f_Model_findWants_41 at h
  refine gh_iload_n gd_Model_findWants_41 3 rfl ?_
  refine gh_iconst gd_Model_findWants_42 (gh_r0 rfl) ?_
  refine gh_aload_n gd_Model_findWants_43 0 rfl (by decide) ?_
  refine gf_63_27 gd_Model_findWants_44 gh_k1397 hF rfl ?_
  obtain ⟨q3890, h⟩ := h
  refine gh_imul gd_Model_findWants_47 q3890 ?_
  obtain ⟨hA, hB⟩ := h
  refine gh_jge (tgt := 210) gd_Model_findWants_48 (by decide) (fun c3891 => ?_) (fun c3891 => ?_)
  · have h := hA c3891
    refine gh_iload_n gd_Model_findWants_51 3 rfl ?_
    refine gh_iconst gd_Model_findWants_52 (gh_r0 rfl) ?_
    obtain ⟨q3892, h⟩ := h
    refine gh_idiv gd_Model_findWants_53 q3892 (by decide) ?_
    refine gh_name (fun v4 hn => ?_)
    have h := h v4 hn
    refine gh_istore (L2 := [(4, 0, v4), (0, 2, 63), (1, 0, v1), (2, 0, v2), (3, 0, v3)]) gd_Model_findWants_54 (by decide) rfl ?_
    refine gh_iload_n gd_Model_findWants_56 4 rfl ?_
    refine gh_iconst gd_Model_findWants_57 (gh_r0 rfl) ?_
    obtain ⟨q3893, h⟩ := h
    refine gh_irem gd_Model_findWants_58 q3893 (by decide) ?_
    refine gh_name (fun v5 hn => ?_)
    have h := h v5 hn
    refine gh_istore (L2 := [(5, 0, v5), (4, 0, v4), (0, 2, 63), (1, 0, v1), (2, 0, v2), (3, 0, v3)]) gd_Model_findWants_59 (by decide) rfl ?_
    refine gh_iconst gd_Model_findWants_61 (gh_r0 rfl) ?_
    refine gh_istore (L2 := [(6, 0, 0), (5, 0, v5), (4, 0, v4), (0, 2, 63), (1, 0, v1), (2, 0, v2), (3, 0, v3)]) gd_Model_findWants_62 (by decide) rfl ?_
    refine gh_pick (L2 := [(0, 2, 63), (1, 0, v1), (2, 0, v2), (3, 0, v3), (4, 0, v4), (5, 0, v5), (6, 0, 0)]) [3, 4, 5, 6, 2, 1, 0] rfl ?_
    exact gh_M2_sound (T := fun v2 v6 m => gh_T E (gh_yModel_findWants.cls, prog_14_method_83_code, 10, false, 9) (d + 1) 64 [(0, 2, 63), (1, 0, v1), (2, 0, v2), (3, 0, v3), (4, 0, v4), (5, 0, v5), (6, 0, v6)] [] m (fun r m1 => gh_F m1 ∧ Q r m1)) (fun _ _ m => gh_F m) (fun K64 v2 v6 m hK hF h => b_Model_findWants_64 d hK41 hK v2 v6 m hF h) v2 0 m hF h
  · have h := hB c3891
    refine gh_goto (tgt := 33) gd_Model_findWants_210 (by decide) ?_
    refine gh_pick (L2 := [(0, 2, 63), (1, 0, v1), (2, 0, v2)]) [0, 1, 2] rfl ?_
    exact hK33 v2 m hF h
theorem b_Model_findWants_33 {E : gh_E} {v1 : Int} {Q : Int → gh_M → Prop} {K33 : Int → gh_M → Prop} (d : Nat) (hK : ∀ (v2 : Int) (m : gh_M), gh_F m → K33 v2 m → gh_T E (gh_yModel_findWants.cls, prog_14_method_83_code, 10, false, 9) (d + 1) 33 [(0, 2, 63), (1, 0, v1), (2, 0, v2)] [] m (fun r m1 => gh_F m1 ∧ Q r m1)) (v2 : Int) (m : gh_M) (hF : gh_F m) (h : f_Model_findWants_33 v1 Q K33 v2 m) : gh_T E (gh_yModel_findWants.cls, prog_14_method_83_code, 10, false, 9) (d + 1) 33 [(0, 2, 63), (1, 0, v1), (2, 0, v2)] [] m (fun r m1 => gh_F m1 ∧ Q r m1) := by
  have hK33 := hK
  unfold f_Model_findWants_33 at h
  refine gh_iload_n gd_Model_findWants_33 2 rfl ?_
  obtain ⟨hA, hB⟩ := h
  refine gh_zeq (tgt := 213) gd_Model_findWants_34 (by decide) (fun c3889 => ?_) (fun c3889 => ?_)
  · have h := hA c3889
    exact gh_ret9 rfl gd_Model_findWants_213 ⟨hF, h⟩
  · have h := hB c3889
    refine gh_iconst gd_Model_findWants_37 (gh_r0 rfl) ?_
    refine gh_istore_n (L2 := [(2, 0, 0), (0, 2, 63), (1, 0, v1)]) gd_Model_findWants_38 (by decide) rfl ?_
    refine gh_iconst gd_Model_findWants_39 (gh_r0 rfl) ?_
    refine gh_istore_n (L2 := [(3, 0, 0), (2, 0, 0), (0, 2, 63), (1, 0, v1)]) gd_Model_findWants_40 (by decide) rfl ?_
    refine gh_pick (L2 := [(0, 2, 63), (1, 0, v1), (2, 0, 0), (3, 0, 0)]) [2, 3, 1, 0] rfl ?_
    exact gh_M2_sound (T := fun v2 v3 m => gh_T E (gh_yModel_findWants.cls, prog_14_method_83_code, 10, false, 9) (d + 1) 41 [(0, 2, 63), (1, 0, v1), (2, 0, v2), (3, 0, v3)] [] m (fun r m1 => gh_F m1 ∧ Q r m1)) (fun _ _ m => gh_F m) (fun K41 v2 v3 m hK hF h => b_Model_findWants_41 d hK33 hK v2 v3 m hF h) 0 0 m hF h
theorem b_Model_findWants_2 {E : gh_E} {v1 : Int} {Q : Int → gh_M → Prop} {K2 : Int → gh_M → Prop} (d : Nat) (hK : ∀ (v2 : Int) (m : gh_M), gh_F m → K2 v2 m → gh_T E (gh_yModel_findWants.cls, prog_14_method_83_code, 10, false, 9) (d + 1) 2 [(0, 2, 63), (1, 0, v1), (2, 0, v2)] [] m (fun r m1 => gh_F m1 ∧ Q r m1)) (v2 : Int) (m : gh_M) (hF : gh_F m) (h : f_Model_findWants_2 v1 Q K2 v2 m) : gh_T E (gh_yModel_findWants.cls, prog_14_method_83_code, 10, false, 9) (d + 1) 2 [(0, 2, 63), (1, 0, v1), (2, 0, v2)] [] m (fun r m1 => gh_F m1 ∧ Q r m1) := by
  have hK2 := hK
  unfold f_Model_findWants_2 at h
  refine gh_iload_n gd_Model_findWants_2 2 rfl ?_
  refine gh_bipush gd_Model_findWants_3 (by decide) (gh_r0 rfl) ?_
  obtain ⟨hA, hB⟩ := h
  refine gh_jge (tgt := 31) gd_Model_findWants_5 (by decide) (fun c3882 => ?_) (fun c3882 => ?_)
  · have h := hA c3882
    refine gh_aload_n gd_Model_findWants_8 0 rfl (by decide) ?_
    refine gf_63_57 gd_Model_findWants_9 gh_k1427 hF ?_
    refine gh_iload_n gd_Model_findWants_12 2 rfl ?_
    refine gh_iload_n gd_Model_findWants_13 2 rfl ?_
    have k3883 : ∀ x3884 : Int, x3884 = (if v2 = 0 then 0 else 1000000000) → gh_T E (gh_yModel_findWants.cls, prog_14_method_83_code, 10, false, 9) (d + 1) 24 [(0, 2, 63), (1, 0, v1), (2, 0, v2)] [(0, x3884), (0, v2), (2, 101)] m (fun r m1 => gh_F m1 ∧ Q r m1) := by
      rintro _ rfl
      obtain ⟨q3885, h⟩ := h
      obtain ⟨q3886, h⟩ := h
      refine sa_101 gd_Model_findWants_24 hF q3885 q3886 (fun hF => ?_)
      obtain ⟨q3887, h⟩ := h
      refine gh_iinc (L2 := [(2, 0, v2 + 1), (0, 2, 63), (1, 0, v1)]) gd_Model_findWants_25 2 rfl q3887 (by decide) rfl ?_
      refine gh_goto (tgt := 2) gd_Model_findWants_28 (by decide) ?_
      refine gh_pick (L2 := [(0, 2, 63), (1, 0, v1), (2, 0, v2 + 1)]) [1, 2, 0] rfl ?_
      exact hK2 (v2 + 1) (gh_u m 101 v2 (if v2 = 0 then 0 else 1000000000)) hF h
    refine gh_zne (tgt := 21) gd_Model_findWants_14 (by decide) (fun c3888 => ?_) (fun c3888 => ?_)
    · have hz : True := trivial
      refine gh_iconst gd_Model_findWants_17 (gh_r0 rfl) ?_
      refine gh_goto (tgt := 24) gd_Model_findWants_18 (by decide) ?_
      exact k3883 _ (by rw [if_pos c3888])
    · have hz : True := trivial
      refine gh_ldcw (n := 1000000000) gd_Model_findWants_21 gh_k1744 (by decide) (gh_r0 rfl) ?_
      exact k3883 _ (by rw [if_neg c3888])
  · have h := hB c3882
    refine gh_iconst gd_Model_findWants_31 (gh_r0 rfl) ?_
    refine gh_istore_n (L2 := [(2, 0, 1), (0, 2, 63), (1, 0, v1)]) gd_Model_findWants_32 (by decide) rfl ?_
    refine gh_pick (L2 := [(0, 2, 63), (1, 0, v1), (2, 0, 1)]) [1, 2, 0] rfl ?_
    exact gh_M1_sound (T := fun v2 m => gh_T E (gh_yModel_findWants.cls, prog_14_method_83_code, 10, false, 9) (d + 1) 33 [(0, 2, 63), (1, 0, v1), (2, 0, v2)] [] m (fun r m1 => gh_F m1 ∧ Q r m1)) (fun _ m => gh_F m) (fun K33 v2 m hK hF h => b_Model_findWants_33 d hK v2 m hF h) 1 m hF h
theorem s_Model_findWants {E : gh_E} {m : gh_M} {Q : Int → gh_M → Prop} (d : Nat) (v1 : Int) (hF : gh_F m) (h : w_Model_findWants v1 m Q) : gh_C E gh_yModel_findWants prog_14_method_83_code 10 none 9 (d + 1) [(2, 63), (0, v1)] m (fun r m1 => gh_F m1 ∧ Q r m1) := by
  refine gh_enter2 (L := [(0, 2, 63), (1, 0, v1)]) (by decide +kernel) gh_rt9 (Nat.le_of_ble_eq_true rfl) rfl rfl ?_
  unfold w_Model_findWants at h
  refine gh_iconst gd_Model_findWants_0 (gh_r0 rfl) ?_
  refine gh_istore_n (L2 := [(2, 0, 0), (0, 2, 63), (1, 0, v1)]) gd_Model_findWants_1 (by decide) rfl ?_
  refine gh_pick (L2 := [(0, 2, 63), (1, 0, v1), (2, 0, 0)]) [1, 2, 0] rfl ?_
  exact gh_M1_sound (T := fun v2 m => gh_T E (gh_yModel_findWants.cls, prog_14_method_83_code, 10, false, 9) (d + 1) 2 [(0, 2, 63), (1, 0, v1), (2, 0, v2)] [] m (fun r m1 => gh_F m1 ∧ Q r m1)) (fun _ m => gh_F m) (fun K2 v2 m hK hF h => b_Model_findWants_2 d hK v2 m hF h) 0 m hF h
def f_Model_end_72 (v1 : Int) (v3 : Int) (v4 : Int) (K58 : Int → Int → Prop) (m3941 : gh_M) (K72 : Int → Int → Prop) (v2 : Int) (v5 : Int) : Prop := ((v5 ≤ v1 → (gh_i (405 * v3) ∧ gh_i (81 * v4) ∧ gh_i ((405 * v3) + (81 * v4)) ∧ gh_i (9 * v5) ∧ gh_i (((405 * v3) + (81 * v4)) + (9 * v5)) ∧ gh_i ((((405 * v3) + (81 * v4)) + (9 * v5)) + v1)) ∧ 0 ≤ ((((405 * v3) + (81 * v4)) + (9 * v5)) + v1) ∧ (((((405 * v3) + (81 * v4)) + (9 * v5)) + v1)) < 8100 ∧ ∃ J128 : Int → Prop, (∀ (y0 : Int), J128 y0 → ∀ v2' : Int, v2' = (if y0 < v2 then y0 else v2) → gh_i (v5 + 1) ∧ K72 v2' (v5 + 1)) ∧ (((m3941 98 (((((405 * v3) + (81 * v4)) + (9 * v5)) + v1))) = 0 → J128 1000000000) ∧ (¬ ((m3941 98 (((((405 * v3) + (81 * v4)) + (9 * v5)) + v1))) = 0) → w_Model_leastOf v3 v4 m3941 (fun r3955 => 0 ≤ v3 ∧ v3 < 20 ∧ gh_i (9 * (m3941 79 v3)) ∧ gh_i ((9 * (m3941 79 v3)) + v5) ∧ 0 ≤ (9 * (m3941 79 v3)) + v5 ∧ ((9 * (m3941 79 v3)) + v5) < 72 ∧ k_Model_sumOf r3955 (m3941 101 ((9 * (m3941 79 v3)) + v5)) ∧ J128 (x_Model_sumOf r3955 (m3941 101 ((9 * (m3941 79 v3)) + v5))))))) ∧ (¬ (v5 ≤ v1) → gh_i (v4 + 1) ∧ K58 v2 (v4 + 1)))
def f_Model_end_58 (v1 : Int) (v3 : Int) (K47 : Int → Int → Prop) (m3941 : gh_M) (K58 : Int → Int → Prop) (v2 : Int) (v4 : Int) : Prop := 0 ≤ v3 ∧ v3 < 20 ∧ ((v4 ≤ (m3941 80 v3) → gh_L2 (fun K72 v2 v5 => f_Model_end_72 v1 v3 v4 K58 m3941 K72 v2 v5) v2 0) ∧ (¬ (v4 ≤ (m3941 80 v3)) → gh_i (v3 + 1) ∧ K47 v2 (v3 + 1)))
def f_Model_end_47 (v1 : Int) (Q : Int → gh_M → Prop) (m3941 : gh_M) (K47 : Int → Int → Prop) (v2 : Int) (v3 : Int) : Prop := ((v3 < (m3941 63 27) → gh_L2 (fun K58 v2 v4 => f_Model_end_58 v1 v3 K47 m3941 K58 v2 v4) v2 0) ∧ (¬ (v3 < (m3941 63 27)) → Q (if v2 = 1000000000 then (-1) else v2) m3941))
def w_Model_end (v1 : Int) (m : gh_M) (Q : Int → gh_M → Prop) : Prop := ∃ J15 : Prop, (J15 → Q (if (m 63 24) = 0 then (-1003) else (-1001)) m) ∧ (((¬ ((m 63 24) = 0) ∧ (p_Model_isPlace v1 m)) → w_Model_lay m (fun _ m3939 => w_Model_findWants v1 m3939 (fun _ m3941 => gh_L2 (fun K47 v2 v3 => f_Model_end_47 v1 Q m3941 K47 v2 v3) 1000000000 0))) ∧ (¬ (¬ ((m 63 24) = 0) ∧ (p_Model_isPlace v1 m)) → J15))
theorem b_Model_end_72 {E : gh_E} {v1 : Int} {v3 : Int} {v4 : Int} {K58 : Int → Int → Prop} {Q : Int → gh_M → Prop} {K72 : Int → Int → Prop} (d : Nat) {m3941 : gh_M} (hK58 : ∀ (v2 : Int) (v4 : Int), gh_F m3941 → K58 v2 v4 → gh_T E (gh_yModel_end.cls, prog_14_method_84_code, 7, false, 0) (d + 3) 58 [(0, 2, 63), (1, 0, v1), (2, 0, v2), (3, 0, v3), (4, 0, v4)] [] m3941 (fun r m1 => gh_F m1 ∧ Q r m1)) (hK : ∀ (v2 : Int) (v5 : Int), gh_F m3941 → K72 v2 v5 → gh_T E (gh_yModel_end.cls, prog_14_method_84_code, 7, false, 0) (d + 3) 72 [(0, 2, 63), (1, 0, v1), (2, 0, v2), (3, 0, v3), (4, 0, v4), (5, 0, v5)] [] m3941 (fun r m1 => gh_F m1 ∧ Q r m1)) (v2 : Int) (v5 : Int) (hF : gh_F m3941) (h : f_Model_end_72 v1 v3 v4 K58 m3941 K72 v2 v5) : gh_T E (gh_yModel_end.cls, prog_14_method_84_code, 7, false, 0) (d + 3) 72 [(0, 2, 63), (1, 0, v1), (2, 0, v2), (3, 0, v3), (4, 0, v4), (5, 0, v5)] [] m3941 (fun r m1 => gh_F m1 ∧ Q r m1) := by
  have hK72 := hK
  unfold f_Model_end_72 at h
  refine gh_iload gd_Model_end_72 5 rfl ?_
  refine gh_iload_n gd_Model_end_74 1 rfl ?_
  obtain ⟨hA, hB⟩ := h
  refine gh_jgt (tgt := 149) gd_Model_end_75 (by decide) (fun c3946 => ?_) (fun c3946 => ?_)
  · have h := hA c3946
    refine gh_aload_n gd_Model_end_78 0 rfl (by decide) ?_
    refine gf_63_54 gd_Model_end_79 gh_k1424 hF ?_
    refine gh_iload_n gd_Model_end_82 3 rfl ?_
    refine gh_iload gd_Model_end_83 4 rfl ?_
    refine gh_iload gd_Model_end_85 5 rfl ?_
    refine gh_iload_n gd_Model_end_87 1 rfl ?_
    obtain ⟨q3947, h⟩ := h
    refine cv_Model_begun (d := d + 2) gd_Model_end_88 gh_k1907 (Nat.le_of_ble_eq_true rfl) (gh_C.pe (e_Model_begun (d + 2) v3 v4 v5 v1 q3947) ?_)
    obtain ⟨q3948, h⟩ := h
    obtain ⟨q3949, h⟩ := h
    refine la_98 gd_Model_end_91 hF q3948 q3949 rfl ?_
    obtain ⟨J128, hJ128, h⟩ := h
    have hJ128 : ∀ (y0 : Int), gh_F m3941 → J128 y0 → gh_T E (gh_yModel_end.cls, prog_14_method_84_code, 7, false, 0) (d + 3) 128 [(0, 2, 63), (1, 0, v1), (2, 0, v2), (3, 0, v3), (4, 0, v4), (5, 0, v5)] [(0, y0)] m3941 (fun r m1 => gh_F m1 ∧ Q r m1) := by
      intro y0 hF hj
      have h := hJ128 y0 hj
      refine gh_istore (L2 := [(6, 0, y0), (0, 2, 63), (1, 0, v1), (2, 0, v2), (3, 0, v3), (4, 0, v4), (5, 0, v5)]) gd_Model_end_128 (by decide) rfl ?_
      refine gh_iload gd_Model_end_130 0 rfl ?_
      refine gh_iload_n gd_Model_end_132 3 rfl ?_
      have k3950 : ∀ x3951 : Int, x3951 = (if y0 < v2 then y0 else v2) → gh_T E (gh_yModel_end.cls, prog_14_method_84_code, 7, false, 0) (d + 3) 142 [(6, 0, y0), (0, 2, 63), (1, 0, v1), (2, 0, v2), (3, 0, v3), (4, 0, v4), (5, 0, v5)] [(0, x3951)] m3941 (fun r m1 => gh_F m1 ∧ Q r m1) := by
        rintro _ rfl
        refine gh_name (fun v2' hn => ?_)
        have h := h v2' hn
        refine gh_istore_n (L2 := [(2, 0, v2'), (6, 0, y0), (0, 2, 63), (1, 0, v1), (3, 0, v3), (4, 0, v4), (5, 0, v5)]) gd_Model_end_142 (by decide) rfl ?_
        obtain ⟨q3952, h⟩ := h
        refine gh_iinc (L2 := [(5, 0, v5 + 1), (2, 0, v2'), (6, 0, y0), (0, 2, 63), (1, 0, v1), (3, 0, v3), (4, 0, v4)]) gd_Model_end_143 6 rfl q3952 (by decide) rfl ?_
        refine gh_goto (tgt := 72) gd_Model_end_146 (by decide) ?_
        refine gh_pick (L2 := [(0, 2, 63), (1, 0, v1), (2, 0, v2'), (3, 0, v3), (4, 0, v4), (5, 0, v5 + 1)]) [3, 4, 1, 5, 6, 0] rfl ?_
        exact hK72 v2' (v5 + 1) hF h
      refine gh_jge (tgt := 141) gd_Model_end_133 (by decide) (fun c3953 => ?_) (fun c3953 => ?_)
      · have hz : True := trivial
        refine gh_iload gd_Model_end_136 0 rfl ?_
        refine gh_goto (tgt := 142) gd_Model_end_138 (by decide) ?_
        exact k3950 _ (by rw [if_pos c3953])
      · have hz : True := trivial
        refine gh_iload_n gd_Model_end_141 3 rfl ?_
        exact k3950 _ (by rw [if_neg c3953])
    obtain ⟨hA, hB⟩ := h
    refine gh_zeq (tgt := 125) gd_Model_end_92 (by decide) (fun c3954 => ?_) (fun c3954 => ?_)
    · have h := hA c3954
      refine gh_ldcw (n := 1000000000) gd_Model_end_125 gh_k1744 (by decide) (gh_r0 rfl) ?_
      exact hJ128 1000000000 hF h
    · have h := hB c3954
      refine gh_aload_n gd_Model_end_95 0 rfl (by decide) ?_
      refine gh_iload_n gd_Model_end_96 3 rfl ?_
      refine gh_iload gd_Model_end_97 4 rfl ?_
      refine cv_Model_leastOf (d := d + 2) gd_Model_end_99 gh_k1745 hF (Nat.le_of_ble_eq_true rfl) (gh_C.pw (s_Model_leastOf (d + 2) v3 v4 hF h) (fun r3955 h => ?_))
      refine gh_aload_n gd_Model_end_102 0 rfl (by decide) ?_
      refine gf_63_57 gd_Model_end_103 gh_k1427 hF ?_
      refine gh_bipush gd_Model_end_106 (by decide) (gh_r0 rfl) ?_
      refine gh_aload_n gd_Model_end_108 0 rfl (by decide) ?_
      refine gf_63_32 gd_Model_end_109 gh_k1402 hF ?_
      refine gh_iload_n gd_Model_end_112 3 rfl ?_
      obtain ⟨q3957, h⟩ := h
      obtain ⟨q3958, h⟩ := h
      refine la_79 gd_Model_end_113 hF q3957 q3958 rfl ?_
      obtain ⟨q3959, h⟩ := h
      refine gh_imul gd_Model_end_114 q3959 ?_
      refine gh_iload gd_Model_end_115 5 rfl ?_
      obtain ⟨q3960, h⟩ := h
      refine gh_iadd gd_Model_end_117 q3960 ?_
      obtain ⟨q3961, h⟩ := h
      obtain ⟨q3962, h⟩ := h
      refine la_101 gd_Model_end_118 hF q3961 q3962 rfl ?_
      obtain ⟨q3963, h⟩ := h
      refine cv_Model_sumOf (d := d + 2) gd_Model_end_119 gh_k1950 (Nat.le_of_ble_eq_true rfl) (gh_C.pe (e_Model_sumOf (d + 2) r3955 (m3941 101 ((9 * (m3941 79 v3)) + v5)) q3963) ?_)
      refine gh_goto (tgt := 128) gd_Model_end_122 (by decide) ?_
      exact hJ128 (x_Model_sumOf r3955 (m3941 101 ((9 * (m3941 79 v3)) + v5))) hF h
  · have h := hB c3946
    obtain ⟨q3964, h⟩ := h
    refine gh_iinc (L2 := [(4, 0, v4 + 1), (0, 2, 63), (1, 0, v1), (2, 0, v2), (3, 0, v3), (5, 0, v5)]) gd_Model_end_149 4 rfl q3964 (by decide) rfl ?_
    refine gh_goto (tgt := 58) gd_Model_end_152 (by decide) ?_
    refine gh_pick (L2 := [(0, 2, 63), (1, 0, v1), (2, 0, v2), (3, 0, v3), (4, 0, v4 + 1)]) [1, 2, 3, 4, 0] rfl ?_
    exact hK58 v2 (v4 + 1) hF h
theorem b_Model_end_58 {E : gh_E} {v1 : Int} {v3 : Int} {K47 : Int → Int → Prop} {Q : Int → gh_M → Prop} {K58 : Int → Int → Prop} (d : Nat) {m3941 : gh_M} (hK47 : ∀ (v2 : Int) (v3 : Int), gh_F m3941 → K47 v2 v3 → gh_T E (gh_yModel_end.cls, prog_14_method_84_code, 7, false, 0) (d + 3) 47 [(0, 2, 63), (1, 0, v1), (2, 0, v2), (3, 0, v3)] [] m3941 (fun r m1 => gh_F m1 ∧ Q r m1)) (hK : ∀ (v2 : Int) (v4 : Int), gh_F m3941 → K58 v2 v4 → gh_T E (gh_yModel_end.cls, prog_14_method_84_code, 7, false, 0) (d + 3) 58 [(0, 2, 63), (1, 0, v1), (2, 0, v2), (3, 0, v3), (4, 0, v4)] [] m3941 (fun r m1 => gh_F m1 ∧ Q r m1)) (v2 : Int) (v4 : Int) (hF : gh_F m3941) (h : f_Model_end_58 v1 v3 K47 m3941 K58 v2 v4) : gh_T E (gh_yModel_end.cls, prog_14_method_84_code, 7, false, 0) (d + 3) 58 [(0, 2, 63), (1, 0, v1), (2, 0, v2), (3, 0, v3), (4, 0, v4)] [] m3941 (fun r m1 => gh_F m1 ∧ Q r m1) := by
  have hK58 := hK
  unfold f_Model_end_58 at h
  refine gh_iload gd_Model_end_58 4 rfl ?_
  refine gh_aload_n gd_Model_end_60 0 rfl (by decide) ?_
  refine gf_63_33 gd_Model_end_61 gh_k1403 hF ?_
  refine gh_iload_n gd_Model_end_64 3 rfl ?_
  obtain ⟨q3943, h⟩ := h
  obtain ⟨q3944, h⟩ := h
  refine la_80 gd_Model_end_65 hF q3943 q3944 rfl ?_
  obtain ⟨hA, hB⟩ := h
  refine gh_jgt (tgt := 155) gd_Model_end_66 (by decide) (fun c3945 => ?_) (fun c3945 => ?_)
  · have h := hA c3945
    refine gh_iconst gd_Model_end_69 (gh_r0 rfl) ?_
    refine gh_istore (L2 := [(5, 0, 0), (0, 2, 63), (1, 0, v1), (2, 0, v2), (3, 0, v3), (4, 0, v4)]) gd_Model_end_70 (by decide) rfl ?_
    refine gh_pick (L2 := [(0, 2, 63), (1, 0, v1), (2, 0, v2), (3, 0, v3), (4, 0, v4), (5, 0, 0)]) [1, 2, 3, 4, 5, 0] rfl ?_
    exact gh_L2_sound (T := fun v2 v5 => gh_T E (gh_yModel_end.cls, prog_14_method_84_code, 7, false, 0) (d + 3) 72 [(0, 2, 63), (1, 0, v1), (2, 0, v2), (3, 0, v3), (4, 0, v4), (5, 0, v5)] [] m3941 (fun r m1 => gh_F m1 ∧ Q r m1)) (fun _ _ => gh_F m3941) (fun K72 v2 v5 hK hF h => b_Model_end_72 d hK58 hK v2 v5 hF h) v2 0 hF h
  · have h := hB c3945
    obtain ⟨q3965, h⟩ := h
    refine gh_iinc (L2 := [(3, 0, v3 + 1), (0, 2, 63), (1, 0, v1), (2, 0, v2), (4, 0, v4)]) gd_Model_end_155 3 rfl q3965 (by decide) rfl ?_
    refine gh_goto (tgt := 47) gd_Model_end_158 (by decide) ?_
    refine gh_pick (L2 := [(0, 2, 63), (1, 0, v1), (2, 0, v2), (3, 0, v3 + 1)]) [1, 2, 3, 0] rfl ?_
    exact hK47 v2 (v3 + 1) hF h
theorem b_Model_end_47 {E : gh_E} {v1 : Int} {Q : Int → gh_M → Prop} {K47 : Int → Int → Prop} (d : Nat) {m3941 : gh_M} (hK : ∀ (v2 : Int) (v3 : Int), gh_F m3941 → K47 v2 v3 → gh_T E (gh_yModel_end.cls, prog_14_method_84_code, 7, false, 0) (d + 3) 47 [(0, 2, 63), (1, 0, v1), (2, 0, v2), (3, 0, v3)] [] m3941 (fun r m1 => gh_F m1 ∧ Q r m1)) (v2 : Int) (v3 : Int) (hF : gh_F m3941) (h : f_Model_end_47 v1 Q m3941 K47 v2 v3) : gh_T E (gh_yModel_end.cls, prog_14_method_84_code, 7, false, 0) (d + 3) 47 [(0, 2, 63), (1, 0, v1), (2, 0, v2), (3, 0, v3)] [] m3941 (fun r m1 => gh_F m1 ∧ Q r m1) := by
  have hK47 := hK
  unfold f_Model_end_47 at h
  refine gh_iload_n gd_Model_end_47 3 rfl ?_
  refine gh_aload_n gd_Model_end_48 0 rfl (by decide) ?_
  refine gf_63_27 gd_Model_end_49 gh_k1397 hF rfl ?_
  obtain ⟨hA, hB⟩ := h
  refine gh_jge (tgt := 161) gd_Model_end_52 (by decide) (fun c3942 => ?_) (fun c3942 => ?_)
  · have h := hA c3942
    refine gh_iconst gd_Model_end_55 (gh_r0 rfl) ?_
    refine gh_istore (L2 := [(4, 0, 0), (0, 2, 63), (1, 0, v1), (2, 0, v2), (3, 0, v3)]) gd_Model_end_56 (by decide) rfl ?_
    refine gh_pick (L2 := [(0, 2, 63), (1, 0, v1), (2, 0, v2), (3, 0, v3), (4, 0, 0)]) [1, 2, 3, 4, 0] rfl ?_
    exact gh_L2_sound (T := fun v2 v4 => gh_T E (gh_yModel_end.cls, prog_14_method_84_code, 7, false, 0) (d + 3) 58 [(0, 2, 63), (1, 0, v1), (2, 0, v2), (3, 0, v3), (4, 0, v4)] [] m3941 (fun r m1 => gh_F m1 ∧ Q r m1)) (fun _ _ => gh_F m3941) (fun K58 v2 v4 hK hF h => b_Model_end_58 d hK47 hK v2 v4 hF h) v2 0 hF h
  · have h := hB c3942
    refine gh_iload_n gd_Model_end_161 2 rfl ?_
    refine gh_ldcw (n := 1000000000) gd_Model_end_162 gh_k1744 (by decide) (gh_r0 rfl) ?_
    have k3966 : ∀ x3967 : Int, x3967 = (if v2 = 1000000000 then (-1) else v2) → gh_T E (gh_yModel_end.cls, prog_14_method_84_code, 7, false, 0) (d + 3) 173 [(0, 2, 63), (1, 0, v1), (2, 0, v2), (3, 0, v3)] [(0, x3967)] m3941 (fun r m1 => gh_F m1 ∧ Q r m1) := by
      rintro _ rfl
      exact gh_ret0 rfl gd_Model_end_173 ⟨hF, h⟩
    refine gh_jne (tgt := 172) gd_Model_end_165 (by decide) (fun c3968 => ?_) (fun c3968 => ?_)
    · have hz : True := trivial
      refine gh_iconst gd_Model_end_168 (gh_r0 rfl) ?_
      refine gh_goto (tgt := 173) gd_Model_end_169 (by decide) ?_
      exact k3966 _ (by rw [if_pos c3968])
    · have hz : True := trivial
      refine gh_iload_n gd_Model_end_172 2 rfl ?_
      exact k3966 _ (by rw [if_neg c3968])
theorem s_Model_end {E : gh_E} {m : gh_M} {Q : Int → gh_M → Prop} (d : Nat) (v1 : Int) (hF : gh_F m) (h : w_Model_end v1 m Q) : gh_C E gh_yModel_end prog_14_method_84_code 7 (some .int) 0 (d + 3) [(2, 63), (0, v1)] m (fun r m1 => gh_F m1 ∧ Q r m1) := by
  refine gh_enter2 (L := [(0, 2, 63), (1, 0, v1)]) (by decide +kernel) gh_rt0 (Nat.le_of_ble_eq_true rfl) rfl rfl ?_
  unfold w_Model_end at h
  refine gh_aload_n gd_Model_end_0 0 rfl (by decide) ?_
  refine gf_63_24 gd_Model_end_1 gh_k1394 hF rfl ?_
  obtain ⟨J15, hJ15, h⟩ := h
  have hJ15 : gh_F m → J15 → gh_T E (gh_yModel_end.cls, prog_14_method_84_code, 7, false, 0) (d + 3) 15 [(0, 2, 63)] [] m (fun r m1 => gh_F m1 ∧ Q r m1) := by
    intro hF hj
    have h := hJ15 hj
    refine gh_aload_n gd_Model_end_15 0 rfl (by decide) ?_
    refine gf_63_24 gd_Model_end_16 gh_k1394 hF rfl ?_
    have k3933 : ∀ x3934 : Int, x3934 = (if (m 63 24) = 0 then (-1003) else (-1001)) → gh_T E (gh_yModel_end.cls, prog_14_method_84_code, 7, false, 0) (d + 3) 31 [(0, 2, 63)] [(0, x3934)] m (fun r m1 => gh_F m1 ∧ Q r m1) := by
      rintro _ rfl
      exact gh_ret0 rfl gd_Model_end_31 ⟨hF, h⟩
    refine gh_zeq (tgt := 28) gd_Model_end_19 (by decide) (fun c3935 => ?_) (fun c3935 => ?_)
    · have hz : True := trivial
      refine gh_sipush gd_Model_end_28 (by decide) (gh_r0 rfl) ?_
      exact k3933 _ (by rw [if_pos c3935])
    · have hz : True := trivial
      refine gh_sipush gd_Model_end_22 (by decide) (gh_r0 rfl) ?_
      refine gh_goto (tgt := 31) gd_Model_end_25 (by decide) ?_
      exact k3933 _ (by rw [if_neg c3935])
  obtain ⟨hA, hB⟩ := h
  have k3936 : (¬ ((m 63 24) = 0) ∧ (p_Model_isPlace v1 m)) → gh_T E (gh_yModel_end.cls, prog_14_method_84_code, 7, false, 0) (d + 3) 32 [(0, 2, 63), (1, 0, v1)] [] m (fun r m1 => gh_F m1 ∧ Q r m1) := by
    intro c
    have h := hA c
    refine gh_aload_n gd_Model_end_32 0 rfl (by decide) ?_
    refine cv_Model_lay (d := d + 2) gd_Model_end_33 gh_k1899 hF (Nat.le_of_ble_eq_true rfl) (gh_C.mono (s_Model_lay d hF h) (fun r3938 m3939 hq => ?_))
    obtain ⟨hF, h⟩ := hq
    refine gh_aload_n gd_Model_end_36 0 rfl (by decide) ?_
    refine gh_iload_n gd_Model_end_37 1 rfl ?_
    refine cv_Model_findWants (d := d + 2) gd_Model_end_38 gh_k1946 hF (Nat.le_of_ble_eq_true rfl) (gh_C.mono (s_Model_findWants (d + 1) v1 hF h) (fun r3940 m3941 hq => ?_))
    obtain ⟨hF, h⟩ := hq
    refine gh_ldcw (n := 1000000000) gd_Model_end_41 gh_k1744 (by decide) (gh_r0 rfl) ?_
    refine gh_istore_n (L2 := [(2, 0, 1000000000), (0, 2, 63), (1, 0, v1)]) gd_Model_end_44 (by decide) rfl ?_
    refine gh_iconst gd_Model_end_45 (gh_r0 rfl) ?_
    refine gh_istore_n (L2 := [(3, 0, 0), (2, 0, 1000000000), (0, 2, 63), (1, 0, v1)]) gd_Model_end_46 (by decide) rfl ?_
    refine gh_pick (L2 := [(0, 2, 63), (1, 0, v1), (2, 0, 1000000000), (3, 0, 0)]) [2, 3, 1, 0] rfl ?_
    exact gh_L2_sound (T := fun v2 v3 => gh_T E (gh_yModel_end.cls, prog_14_method_84_code, 7, false, 0) (d + 3) 47 [(0, 2, 63), (1, 0, v1), (2, 0, v2), (3, 0, v3)] [] m3941 (fun r m1 => gh_F m1 ∧ Q r m1)) (fun _ _ => gh_F m3941) (fun K47 v2 v3 hK hF h => b_Model_end_47 d hK v2 v3 hF h) 1000000000 0 hF h
  have k3937 : ¬ (¬ ((m 63 24) = 0) ∧ (p_Model_isPlace v1 m)) → gh_T E (gh_yModel_end.cls, prog_14_method_84_code, 7, false, 0) (d + 3) 15 [(0, 2, 63), (1, 0, v1)] [] m (fun r m1 => gh_F m1 ∧ Q r m1) := by
    intro c
    have h := hB c
    refine gh_pick (L2 := [(0, 2, 63)]) [0] rfl ?_
    exact hJ15 hF h
  refine gh_zeq (tgt := 15) gd_Model_end_4 (by decide) (fun c3969 => ?_) (fun c3969 => ?_)
  · have hz : True := trivial
    exact k3937 (fun z => z.1 c3969)
  · have hz : True := trivial
    refine gh_aload_n gd_Model_end_7 0 rfl (by decide) ?_
    refine gh_iload_n gd_Model_end_8 1 rfl ?_
    refine cv_Model_isPlace (d := d + 2) gd_Model_end_9 gh_k1875 hF (Nat.le_of_ble_eq_true rfl) (gh_C.pe (e_Model_isPlace (d + 1) v1 hF) ?_)
    refine gh_bne (tgt := 32) gd_Model_end_12 (by decide) (fun c3970 => ?_) (fun c3970 => ?_)
    · have hz : True := trivial
      exact k3936 ⟨c3969, c3970⟩
    · have hz : True := trivial
      exact k3937 (fun z => c3970 z.2)
def f_Model_costOf_29 (v1 : Int) (v2 : Int) (v3 : Int) (Q : Int → Prop) (m : gh_M) (K29 : Int → Int → Prop) (v4 : Int) (v5 : Int) : Prop := ((v5 < v3 → 0 ≤ v5 ∧ v5 < 8 ∧ ∀ v4' : Int, v4' = gh_ior_f v4 (gh_iand_f (gh_ishr_f v1 (m 96 v5)) 1) → gh_i (v5 + 1) ∧ K29 v4' (v5 + 1)) ∧ (¬ (v5 < v3) → ((¬ (v2 = v3) → (gh_i (v3 - v2) ∧ gh_i ((v3 - v2) - v4)))) ∧ Q (if v2 = v3 then 1 else ((v3 - v2) - v4))))
def w_Model_costOf (v1 : Int) (v2 : Int) (v3 : Int) (m : gh_M) (Q : Int → Prop) : Prop := ((v1 < 0 → gh_i ((-1) - v1) ∧ gh_i (81 * ((-1) - v1)) ∧ gh_i (9 * v2) ∧ gh_i ((81 * ((-1) - v1)) + (9 * v2)) ∧ gh_i (((81 * ((-1) - v1)) + (9 * v2)) + v3) ∧ 0 ≤ ((81 * ((-1) - v1)) + (9 * v2)) + v3 ∧ (((81 * ((-1) - v1)) + (9 * v2)) + v3) < 648 ∧ Q (m 102 (((81 * ((-1) - v1)) + (9 * v2)) + v3))) ∧ (¬ (v1 < 0) → gh_L2 (fun K29 v4 v5 => f_Model_costOf_29 v1 v2 v3 Q m K29 v4 v5) 0 v2))
theorem b_Model_costOf_29 {E : gh_E} {v1 : Int} {v2 : Int} {v3 : Int} {Q : Int → Prop} {K29 : Int → Int → Prop} (d : Nat) {m : gh_M} (hK : ∀ (v4 : Int) (v5 : Int), gh_F m → K29 v4 v5 → gh_T E (gh_yModel_costOf.cls, prog_14_method_85_code, 6, false, 0) (d + 0) 29 [(0, 2, 63), (1, 0, v1), (2, 0, v2), (3, 0, v3), (4, 0, v4), (5, 0, v5)] [] m (fun r m1 => m1 = m ∧ Q r)) (v4 : Int) (v5 : Int) (hF : gh_F m) (h : f_Model_costOf_29 v1 v2 v3 Q m K29 v4 v5) : gh_T E (gh_yModel_costOf.cls, prog_14_method_85_code, 6, false, 0) (d + 0) 29 [(0, 2, 63), (1, 0, v1), (2, 0, v2), (3, 0, v3), (4, 0, v4), (5, 0, v5)] [] m (fun r m1 => m1 = m ∧ Q r) := by
  have hK29 := hK
  unfold f_Model_costOf_29 at h
  refine gh_iload gd_Model_costOf_29 5 rfl ?_
  refine gh_iload_n gd_Model_costOf_31 3 rfl ?_
  obtain ⟨hA, hB⟩ := h
  refine gh_jge (tgt := 57) gd_Model_costOf_32 (by decide) (fun c3979 => ?_) (fun c3979 => ?_)
  · have h := hA c3979
    refine gh_iload gd_Model_costOf_35 4 rfl ?_
    refine gh_iload_n gd_Model_costOf_37 1 rfl ?_
    refine gh_aload_n gd_Model_costOf_38 0 rfl (by decide) ?_
    refine gf_63_51 gd_Model_costOf_39 gh_k1421 hF ?_
    refine gh_iload gd_Model_costOf_42 5 rfl ?_
    obtain ⟨q3980, h⟩ := h
    obtain ⟨q3981, h⟩ := h
    refine la_96 gd_Model_costOf_44 hF q3980 q3981 rfl ?_
    refine gh_ishr gd_Model_costOf_45 ?_
    refine gh_iconst gd_Model_costOf_46 (gh_r0 rfl) ?_
    refine gh_iand gd_Model_costOf_47 ?_
    refine gh_ior gd_Model_costOf_48 ?_
    refine gh_name (fun v4' hn => ?_)
    have h := h v4' hn
    refine gh_istore (L2 := [(4, 0, v4'), (0, 2, 63), (1, 0, v1), (2, 0, v2), (3, 0, v3), (5, 0, v5)]) gd_Model_costOf_49 (by decide) rfl ?_
    obtain ⟨q3982, h⟩ := h
    refine gh_iinc (L2 := [(5, 0, v5 + 1), (4, 0, v4'), (0, 2, 63), (1, 0, v1), (2, 0, v2), (3, 0, v3)]) gd_Model_costOf_51 5 rfl q3982 (by decide) rfl ?_
    refine gh_goto (tgt := 29) gd_Model_costOf_54 (by decide) ?_
    refine gh_pick (L2 := [(0, 2, 63), (1, 0, v1), (2, 0, v2), (3, 0, v3), (4, 0, v4'), (5, 0, v5 + 1)]) [2, 3, 4, 5, 1, 0] rfl ?_
    exact hK29 v4' (v5 + 1) hF h
  · have h := hB c3979
    refine gh_iload_n gd_Model_costOf_57 2 rfl ?_
    refine gh_iload_n gd_Model_costOf_58 3 rfl ?_
    obtain ⟨hk, h⟩ := h
    have k3985 : ∀ x3986 : Int, x3986 = (if v2 = v3 then 1 else ((v3 - v2) - v4)) → gh_T E (gh_yModel_costOf.cls, prog_14_method_85_code, 6, false, 0) (d + 0) 72 [(0, 2, 63), (1, 0, v1), (2, 0, v2), (3, 0, v3), (4, 0, v4), (5, 0, v5)] [(0, x3986)] m (fun r m1 => m1 = m ∧ Q r) := by
      rintro _ rfl
      exact gh_ret0 rfl gd_Model_costOf_72 ⟨rfl, h⟩
    refine gh_jne (tgt := 66) gd_Model_costOf_59 (by decide) (fun c3987 => ?_) (fun c3987 => ?_)
    · have hz : True := trivial
      refine gh_iconst gd_Model_costOf_62 (gh_r0 rfl) ?_
      refine gh_goto (tgt := 72) gd_Model_costOf_63 (by decide) ?_
      exact k3985 _ (by rw [if_pos c3987])
    · have hz : True := trivial
      have hk := hk c3987
      refine gh_iload_n gd_Model_costOf_66 3 rfl ?_
      refine gh_iload_n gd_Model_costOf_67 2 rfl ?_
      obtain ⟨q3983, hk⟩ := hk
      refine gh_isub gd_Model_costOf_68 q3983 ?_
      refine gh_iload gd_Model_costOf_69 4 rfl ?_
      have q3984 := hk
      refine gh_isub gd_Model_costOf_71 q3984 ?_
      exact k3985 _ (by rw [if_neg c3987])
theorem s_Model_costOf {E : gh_E} {m : gh_M} {Q : Int → Prop} (d : Nat) (v1 : Int) (v2 : Int) (v3 : Int) (hF : gh_F m) (h : w_Model_costOf v1 v2 v3 m Q) : gh_C E gh_yModel_costOf prog_14_method_85_code 6 (some .int) 0 (d + 0) [(2, 63), (0, v1), (0, v2), (0, v3)] m (fun r m1 => m1 = m ∧ Q r) := by
  refine gh_enter2 (L := [(0, 2, 63), (1, 0, v1), (2, 0, v2), (3, 0, v3)]) (by decide +kernel) gh_rt0 (Nat.le_of_ble_eq_true rfl) rfl rfl ?_
  unfold w_Model_costOf at h
  refine gh_iload_n gd_Model_costOf_0 1 rfl ?_
  obtain ⟨hA, hB⟩ := h
  refine gh_zge (tgt := 23) gd_Model_costOf_1 (by decide) (fun c3971 => ?_) (fun c3971 => ?_)
  · have h := hA c3971
    refine gh_aload_n gd_Model_costOf_4 0 rfl (by decide) ?_
    refine gf_63_58 gd_Model_costOf_5 gh_k1428 hF ?_
    refine gh_bipush gd_Model_costOf_8 (by decide) (gh_r0 rfl) ?_
    refine gh_iconst gd_Model_costOf_10 (gh_r0 rfl) ?_
    refine gh_iload_n gd_Model_costOf_11 1 rfl ?_
    obtain ⟨q3972, h⟩ := h
    refine gh_isub gd_Model_costOf_12 q3972 ?_
    obtain ⟨q3973, h⟩ := h
    refine gh_imul gd_Model_costOf_13 q3973 ?_
    refine gh_bipush gd_Model_costOf_14 (by decide) (gh_r0 rfl) ?_
    refine gh_iload_n gd_Model_costOf_16 2 rfl ?_
    obtain ⟨q3974, h⟩ := h
    refine gh_imul gd_Model_costOf_17 q3974 ?_
    obtain ⟨q3975, h⟩ := h
    refine gh_iadd gd_Model_costOf_18 q3975 ?_
    refine gh_iload_n gd_Model_costOf_19 3 rfl ?_
    obtain ⟨q3976, h⟩ := h
    refine gh_iadd gd_Model_costOf_20 q3976 ?_
    obtain ⟨q3977, h⟩ := h
    obtain ⟨q3978, h⟩ := h
    refine la_102 gd_Model_costOf_21 hF q3977 q3978 rfl ?_
    exact gh_ret0 rfl gd_Model_costOf_22 ⟨rfl, h⟩
  · have h := hB c3971
    refine gh_iconst gd_Model_costOf_23 (gh_r0 rfl) ?_
    refine gh_istore (L2 := [(4, 0, 0), (0, 2, 63), (1, 0, v1), (2, 0, v2), (3, 0, v3)]) gd_Model_costOf_24 (by decide) rfl ?_
    refine gh_iload_n gd_Model_costOf_26 3 rfl ?_
    refine gh_istore (L2 := [(5, 0, v2), (4, 0, 0), (0, 2, 63), (1, 0, v1), (2, 0, v2), (3, 0, v3)]) gd_Model_costOf_27 (by decide) rfl ?_
    refine gh_pick (L2 := [(0, 2, 63), (1, 0, v1), (2, 0, v2), (3, 0, v3), (4, 0, 0), (5, 0, v2)]) [2, 3, 4, 5, 1, 0] rfl ?_
    exact gh_L2_sound (T := fun v4 v5 => gh_T E (gh_yModel_costOf.cls, prog_14_method_85_code, 6, false, 0) (d + 0) 29 [(0, 2, 63), (1, 0, v1), (2, 0, v2), (3, 0, v3), (4, 0, v4), (5, 0, v5)] [] m (fun r m1 => m1 = m ∧ Q r)) (fun _ _ => gh_F m) (fun K29 v4 v5 hK hF h => b_Model_costOf_29 d hK v4 v5 hF h) 0 v2 hF h
def f_Model_betters_43 (v1 : Int) (v3 : Int) (v4 : Int) (v5 : Int) (K30 : Int → Int → gh_M → Prop) (K43 : Int → Int → gh_M → Prop) (v2 : Int) (v6 : Int) (m : gh_M) : Prop := ((v6 ≤ (m 63 50) → (gh_i (405 * v1) ∧ gh_i (81 * v3) ∧ gh_i ((405 * v1) + (81 * v3)) ∧ gh_i (9 * v4) ∧ gh_i (((405 * v1) + (81 * v3)) + (9 * v4)) ∧ gh_i ((((405 * v1) + (81 * v3)) + (9 * v4)) + v5)) ∧ 0 ≤ ((((405 * v1) + (81 * v3)) + (9 * v4)) + v5) ∧ (((((405 * v1) + (81 * v3)) + (9 * v4)) + v5)) < 8100 ∧ gh_i (4 * v1) ∧ gh_i ((4 * v1) + v3) ∧ 0 ≤ (4 * v1) + v3 ∧ ((4 * v1) + v3) < 80 ∧ w_Model_costOf (m 81 ((4 * v1) + v3)) v5 v6 m (fun r4001 => k_Model_sumOf (m 103 (((((405 * v1) + (81 * v3)) + (9 * v4)) + v5))) r4001 ∧ ∀ v7 : Int, v7 = x_Model_sumOf (m 103 (((((405 * v1) + (81 * v3)) + (9 * v4)) + v5))) r4001 → gh_i (v3 + 1) ∧ (gh_i (405 * v1) ∧ gh_i (81 * (v3 + 1)) ∧ gh_i ((405 * v1) + (81 * (v3 + 1))) ∧ gh_i (9 * v4) ∧ gh_i (((405 * v1) + (81 * (v3 + 1))) + (9 * v4)) ∧ gh_i ((((405 * v1) + (81 * (v3 + 1))) + (9 * v4)) + v6)) ∧ 0 ≤ ((((405 * v1) + (81 * (v3 + 1))) + (9 * v4)) + v6) ∧ (((((405 * v1) + (81 * (v3 + 1))) + (9 * v4)) + v6)) < 8100 ∧ ∃ J130 : Int → gh_M → Prop, (∀ (v2' : Int) (m : gh_M), J130 v2' m → gh_i (v6 + 1) ∧ K43 v2' (v6 + 1) m) ∧ ((v7 < (m 103 (((((405 * v1) + (81 * (v3 + 1))) + (9 * v4)) + v6))) → gh_i (v3 + 1) ∧ (gh_i (405 * v1) ∧ gh_i (81 * (v3 + 1)) ∧ gh_i ((405 * v1) + (81 * (v3 + 1))) ∧ gh_i (9 * v4) ∧ gh_i (((405 * v1) + (81 * (v3 + 1))) + (9 * v4)) ∧ gh_i ((((405 * v1) + (81 * (v3 + 1))) + (9 * v4)) + v6)) ∧ 0 ≤ ((((405 * v1) + (81 * (v3 + 1))) + (9 * v4)) + v6) ∧ (((((405 * v1) + (81 * (v3 + 1))) + (9 * v4)) + v6)) < 8100 ∧ J130 1 (gh_u m 103 (((((405 * v1) + (81 * (v3 + 1))) + (9 * v4)) + v6)) v7)) ∧ (¬ (v7 < (m 103 (((((405 * v1) + (81 * (v3 + 1))) + (9 * v4)) + v6)))) → J130 v2 m)))) ∧ (¬ (v6 ≤ (m 63 50)) → gh_i (v5 + 1) ∧ K30 v2 (v5 + 1) m))
def f_Model_betters_30 (v1 : Int) (v3 : Int) (v4 : Int) (K17 : Int → Int → gh_M → Prop) (K30 : Int → Int → gh_M → Prop) (v2 : Int) (v5 : Int) (m : gh_M) : Prop := ((v5 ≤ (m 63 50) → gh_M2 (fun K43 v2 v6 m => f_Model_betters_43 v1 v3 v4 v5 K30 K43 v2 v6 m) v2 v5 m) ∧ (¬ (v5 ≤ (m 63 50)) → gh_i (v4 + 1) ∧ K17 v2 (v4 + 1) m))
def f_Model_betters_17 (v1 : Int) (v3 : Int) (K4 : Int → Int → gh_M → Prop) (K17 : Int → Int → gh_M → Prop) (v2 : Int) (v4 : Int) (m : gh_M) : Prop := ((v4 ≤ (m 63 50) → gh_M2 (fun K30 v2 v5 m => f_Model_betters_30 v1 v3 v4 K17 K30 v2 v5 m) v2 v4 m) ∧ (¬ (v4 ≤ (m 63 50)) → gh_i (v3 + 1) ∧ K4 v2 (v3 + 1) m))
def f_Model_betters_156 (v1 : Int) (Q : Int → gh_M → Prop) (K156 : Int → Int → gh_M → Prop) (v2 : Int) (v3 : Int) (m : gh_M) : Prop := ((v3 < 81 → gh_i (405 * v1) ∧ 0 ≤ v1 ∧ v1 < 20 ∧ gh_i (81 * (m 80 v1)) ∧ gh_i ((405 * v1) + (81 * (m 80 v1))) ∧ gh_i (((405 * v1) + (81 * (m 80 v1))) + v3) ∧ 0 ≤ ((405 * v1) + (81 * (m 80 v1))) + v3 ∧ (((405 * v1) + (81 * (m 80 v1))) + v3) < 8100 ∧ ∀ v4 : Int, v4 = m 103 (((405 * v1) + (81 * (m 80 v1))) + v3) → 0 ≤ v1 ∧ v1 < 20 ∧ gh_i (81 * (m 79 v1)) ∧ gh_i ((81 * (m 79 v1)) + v3) ∧ 0 ≤ (81 * (m 79 v1)) + v3 ∧ ((81 * (m 79 v1)) + v3) < 648 ∧ ∃ J227 : Int → gh_M → Prop, (∀ (v2' : Int) (m : gh_M), J227 v2' m → gh_i (v3 + 1) ∧ K156 v2' (v3 + 1) m) ∧ ((v4 < (m 102 ((81 * (m 79 v1)) + v3)) → 0 ≤ v1 ∧ v1 < 20 ∧ gh_i (81 * (m 79 v1)) ∧ gh_i ((81 * (m 79 v1)) + v3) ∧ 0 ≤ (81 * (m 79 v1)) + v3 ∧ ((81 * (m 79 v1)) + v3) < 648 ∧ J227 1 (gh_u m 102 ((81 * (m 79 v1)) + v3) v4)) ∧ (¬ (v4 < (m 102 ((81 * (m 79 v1)) + v3))) → J227 v2 m))) ∧ (¬ (v3 < 81) → (v2 = 0 ∨ v2 = 1) ∧ Q v2 m))
def f_Model_betters_4 (v1 : Int) (Q : Int → gh_M → Prop) (K4 : Int → Int → gh_M → Prop) (v2 : Int) (v3 : Int) (m : gh_M) : Prop := 0 ≤ v1 ∧ v1 < 20 ∧ ((v3 < (m 80 v1) → gh_M2 (fun K17 v2 v4 m => f_Model_betters_17 v1 v3 K4 K17 v2 v4 m) v2 0 m) ∧ (¬ (v3 < (m 80 v1)) → gh_M2 (fun K156 v2 v3 m => f_Model_betters_156 v1 Q K156 v2 v3 m) v2 0 m))
def w_Model_betters (v1 : Int) (m : gh_M) (Q : Int → gh_M → Prop) : Prop := gh_M2 (fun K4 v2 v3 m => f_Model_betters_4 v1 Q K4 v2 v3 m) 0 0 m
theorem b_Model_betters_43 {E : gh_E} {v1 : Int} {v3 : Int} {v4 : Int} {v5 : Int} {K30 : Int → Int → gh_M → Prop} {Q : Int → gh_M → Prop} {K43 : Int → Int → gh_M → Prop} (d : Nat) (hK30 : ∀ (v2 : Int) (v5 : Int) (m : gh_M), gh_F m → K30 v2 v5 m → gh_T E (gh_yModel_betters.cls, prog_14_method_86_code, 8, false, 8) (d + 1) 30 [(0, 2, 63), (1, 0, v1), (2, 0, v2), (3, 0, v3), (4, 0, v4), (5, 0, v5)] [] m (fun r m1 => gh_F m1 ∧ Q r m1)) (hK : ∀ (v2 : Int) (v6 : Int) (m : gh_M), gh_F m → K43 v2 v6 m → gh_T E (gh_yModel_betters.cls, prog_14_method_86_code, 8, false, 8) (d + 1) 43 [(0, 2, 63), (1, 0, v1), (2, 0, v2), (3, 0, v3), (4, 0, v4), (5, 0, v5), (6, 0, v6)] [] m (fun r m1 => gh_F m1 ∧ Q r m1)) (v2 : Int) (v6 : Int) (m : gh_M) (hF : gh_F m) (h : f_Model_betters_43 v1 v3 v4 v5 K30 K43 v2 v6 m) : gh_T E (gh_yModel_betters.cls, prog_14_method_86_code, 8, false, 8) (d + 1) 43 [(0, 2, 63), (1, 0, v1), (2, 0, v2), (3, 0, v3), (4, 0, v4), (5, 0, v5), (6, 0, v6)] [] m (fun r m1 => gh_F m1 ∧ Q r m1) := by
  have hK43 := hK
  unfold f_Model_betters_43 at h
  refine gh_iload gd_Model_betters_43 6 rfl ?_
  refine gh_aload_n gd_Model_betters_45 0 rfl (by decide) ?_
  refine gf_63_50 gd_Model_betters_46 gh_k1420 hF rfl ?_
  obtain ⟨hA, hB⟩ := h
  refine gh_jgt (tgt := 136) gd_Model_betters_49 (by decide) (fun c3993 => ?_) (fun c3993 => ?_)
  · have h := hA c3993
    refine gh_aload_n gd_Model_betters_52 0 rfl (by decide) ?_
    refine gf_63_59 gd_Model_betters_53 gh_k1429 hF ?_
    refine gh_iload_n gd_Model_betters_56 1 rfl ?_
    refine gh_iload_n gd_Model_betters_57 3 rfl ?_
    refine gh_iload gd_Model_betters_58 4 rfl ?_
    refine gh_iload gd_Model_betters_60 5 rfl ?_
    obtain ⟨q3994, h⟩ := h
    refine cv_Model_begun (d := d) gd_Model_betters_62 gh_k1907 (Nat.le_of_ble_eq_true rfl) (gh_C.pe (e_Model_begun d v1 v3 v4 v5 q3994) ?_)
    obtain ⟨q3995, h⟩ := h
    obtain ⟨q3996, h⟩ := h
    refine la_103 gd_Model_betters_65 hF q3995 q3996 rfl ?_
    refine gh_aload_n gd_Model_betters_66 0 rfl (by decide) ?_
    refine gh_aload_n gd_Model_betters_67 0 rfl (by decide) ?_
    refine gf_63_34 gd_Model_betters_68 gh_k1404 hF ?_
    refine gh_iconst gd_Model_betters_71 (gh_r0 rfl) ?_
    refine gh_iload_n gd_Model_betters_72 1 rfl ?_
    obtain ⟨q3997, h⟩ := h
    refine gh_imul gd_Model_betters_73 q3997 ?_
    refine gh_iload_n gd_Model_betters_74 3 rfl ?_
    obtain ⟨q3998, h⟩ := h
    refine gh_iadd gd_Model_betters_75 q3998 ?_
    obtain ⟨q3999, h⟩ := h
    obtain ⟨q4000, h⟩ := h
    refine la_81 gd_Model_betters_76 hF q3999 q4000 rfl ?_
    refine gh_iload gd_Model_betters_77 5 rfl ?_
    refine gh_iload gd_Model_betters_79 6 rfl ?_
    refine cv_Model_costOf (d := d) gd_Model_betters_81 gh_k1961 hF (Nat.le_of_ble_eq_true rfl) (gh_C.pw (s_Model_costOf d (m 81 ((4 * v1) + v3)) v5 v6 hF h) (fun r4001 h => ?_))
    obtain ⟨q4003, h⟩ := h
    refine cv_Model_sumOf (d := d) gd_Model_betters_84 gh_k1950 (Nat.le_of_ble_eq_true rfl) (gh_C.pe (e_Model_sumOf d (m 103 (((((405 * v1) + (81 * v3)) + (9 * v4)) + v5))) r4001 q4003) ?_)
    refine gh_name (fun v7 hn => ?_)
    have h := h v7 hn
    refine gh_istore (L2 := [(7, 0, v7), (0, 2, 63), (1, 0, v1), (2, 0, v2), (3, 0, v3), (4, 0, v4), (5, 0, v5), (6, 0, v6)]) gd_Model_betters_87 (by decide) rfl ?_
    refine gh_iload gd_Model_betters_89 0 rfl ?_
    refine gh_aload_n gd_Model_betters_91 1 rfl (by decide) ?_
    refine gf_63_59 gd_Model_betters_92 gh_k1429 hF ?_
    refine gh_iload_n gd_Model_betters_95 2 rfl ?_
    refine gh_iload_n gd_Model_betters_96 4 rfl ?_
    refine gh_iconst gd_Model_betters_97 (gh_r0 rfl) ?_
    obtain ⟨q4004, h⟩ := h
    refine gh_iadd gd_Model_betters_98 q4004 ?_
    refine gh_iload gd_Model_betters_99 5 rfl ?_
    refine gh_iload gd_Model_betters_101 7 rfl ?_
    obtain ⟨q4005, h⟩ := h
    refine cv_Model_begun (d := d) gd_Model_betters_103 gh_k1907 (Nat.le_of_ble_eq_true rfl) (gh_C.pe (e_Model_begun d v1 (v3 + 1) v4 v6 q4005) ?_)
    obtain ⟨q4006, h⟩ := h
    obtain ⟨q4007, h⟩ := h
    refine la_103 gd_Model_betters_106 hF q4006 q4007 rfl ?_
    obtain ⟨J130, hJ130, h⟩ := h
    have hJ130 : ∀ (v2' : Int) (m : gh_M), gh_F m → J130 v2' m → gh_T E (gh_yModel_betters.cls, prog_14_method_86_code, 8, false, 8) (d + 1) 130 [(0, 2, 63), (1, 0, v1), (2, 0, v2'), (3, 0, v3), (4, 0, v4), (5, 0, v5), (6, 0, v6)] [] m (fun r m1 => gh_F m1 ∧ Q r m1) := by
      intro v2' m hF hj
      have h := hJ130 v2' m hj
      obtain ⟨q4008, h⟩ := h
      refine gh_iinc (L2 := [(6, 0, v6 + 1), (0, 2, 63), (1, 0, v1), (2, 0, v2'), (3, 0, v3), (4, 0, v4), (5, 0, v5)]) gd_Model_betters_130 6 rfl q4008 (by decide) rfl ?_
      refine gh_goto (tgt := 43) gd_Model_betters_133 (by decide) ?_
      refine gh_pick (L2 := [(0, 2, 63), (1, 0, v1), (2, 0, v2'), (3, 0, v3), (4, 0, v4), (5, 0, v5), (6, 0, v6 + 1)]) [1, 2, 3, 4, 5, 6, 0] rfl ?_
      exact hK43 v2' (v6 + 1) m hF h
    obtain ⟨hA, hB⟩ := h
    refine gh_jge (tgt := 130) gd_Model_betters_107 (by decide) (fun c4009 => ?_) (fun c4009 => ?_)
    · have h := hA c4009
      refine gh_aload_n gd_Model_betters_110 1 rfl (by decide) ?_
      refine gf_63_59 gd_Model_betters_111 gh_k1429 hF ?_
      refine gh_iload_n gd_Model_betters_114 2 rfl ?_
      refine gh_iload_n gd_Model_betters_115 4 rfl ?_
      refine gh_iconst gd_Model_betters_116 (gh_r0 rfl) ?_
      obtain ⟨q4010, h⟩ := h
      refine gh_iadd gd_Model_betters_117 q4010 ?_
      refine gh_iload gd_Model_betters_118 5 rfl ?_
      refine gh_iload gd_Model_betters_120 7 rfl ?_
      obtain ⟨q4011, h⟩ := h
      refine cv_Model_begun (d := d) gd_Model_betters_122 gh_k1907 (Nat.le_of_ble_eq_true rfl) (gh_C.pe (e_Model_begun d v1 (v3 + 1) v4 v6 q4011) ?_)
      refine gh_iload gd_Model_betters_125 0 rfl ?_
      obtain ⟨q4012, h⟩ := h
      obtain ⟨q4013, h⟩ := h
      refine sa_103 gd_Model_betters_127 hF q4012 q4013 (fun hF => ?_)
      refine gh_iconst gd_Model_betters_128 (gh_r0 rfl) ?_
      refine gh_istore_n (L2 := [(2, 0, 1), (7, 0, v7), (0, 2, 63), (1, 0, v1), (3, 0, v3), (4, 0, v4), (5, 0, v5), (6, 0, v6)]) gd_Model_betters_129 (by decide) rfl ?_
      refine gh_pick (L2 := [(0, 2, 63), (1, 0, v1), (2, 0, 1), (3, 0, v3), (4, 0, v4), (5, 0, v5), (6, 0, v6)]) [2, 3, 0, 4, 5, 6, 7] rfl ?_
      exact hJ130 1 (gh_u m 103 (((((405 * v1) + (81 * (v3 + 1))) + (9 * v4)) + v6)) v7) hF h
    · have h := hB c4009
      refine gh_pick (L2 := [(0, 2, 63), (1, 0, v1), (2, 0, v2), (3, 0, v3), (4, 0, v4), (5, 0, v5), (6, 0, v6)]) [1, 2, 3, 4, 5, 6, 7] rfl ?_
      exact hJ130 v2 m hF h
  · have h := hB c3993
    obtain ⟨q4014, h⟩ := h
    refine gh_iinc (L2 := [(5, 0, v5 + 1), (0, 2, 63), (1, 0, v1), (2, 0, v2), (3, 0, v3), (4, 0, v4), (6, 0, v6)]) gd_Model_betters_136 5 rfl q4014 (by decide) rfl ?_
    refine gh_goto (tgt := 30) gd_Model_betters_139 (by decide) ?_
    refine gh_pick (L2 := [(0, 2, 63), (1, 0, v1), (2, 0, v2), (3, 0, v3), (4, 0, v4), (5, 0, v5 + 1)]) [1, 2, 3, 4, 5, 0] rfl ?_
    exact hK30 v2 (v5 + 1) m hF h
theorem b_Model_betters_30 {E : gh_E} {v1 : Int} {v3 : Int} {v4 : Int} {K17 : Int → Int → gh_M → Prop} {Q : Int → gh_M → Prop} {K30 : Int → Int → gh_M → Prop} (d : Nat) (hK17 : ∀ (v2 : Int) (v4 : Int) (m : gh_M), gh_F m → K17 v2 v4 m → gh_T E (gh_yModel_betters.cls, prog_14_method_86_code, 8, false, 8) (d + 1) 17 [(0, 2, 63), (1, 0, v1), (2, 0, v2), (3, 0, v3), (4, 0, v4)] [] m (fun r m1 => gh_F m1 ∧ Q r m1)) (hK : ∀ (v2 : Int) (v5 : Int) (m : gh_M), gh_F m → K30 v2 v5 m → gh_T E (gh_yModel_betters.cls, prog_14_method_86_code, 8, false, 8) (d + 1) 30 [(0, 2, 63), (1, 0, v1), (2, 0, v2), (3, 0, v3), (4, 0, v4), (5, 0, v5)] [] m (fun r m1 => gh_F m1 ∧ Q r m1)) (v2 : Int) (v5 : Int) (m : gh_M) (hF : gh_F m) (h : f_Model_betters_30 v1 v3 v4 K17 K30 v2 v5 m) : gh_T E (gh_yModel_betters.cls, prog_14_method_86_code, 8, false, 8) (d + 1) 30 [(0, 2, 63), (1, 0, v1), (2, 0, v2), (3, 0, v3), (4, 0, v4), (5, 0, v5)] [] m (fun r m1 => gh_F m1 ∧ Q r m1) := by
  have hK30 := hK
  unfold f_Model_betters_30 at h
  refine gh_iload gd_Model_betters_30 5 rfl ?_
  refine gh_aload_n gd_Model_betters_32 0 rfl (by decide) ?_
  refine gf_63_50 gd_Model_betters_33 gh_k1420 hF rfl ?_
  obtain ⟨hA, hB⟩ := h
  refine gh_jgt (tgt := 142) gd_Model_betters_36 (by decide) (fun c3992 => ?_) (fun c3992 => ?_)
  · have h := hA c3992
    refine gh_iload gd_Model_betters_39 5 rfl ?_
    refine gh_istore (L2 := [(6, 0, v5), (0, 2, 63), (1, 0, v1), (2, 0, v2), (3, 0, v3), (4, 0, v4), (5, 0, v5)]) gd_Model_betters_41 (by decide) rfl ?_
    refine gh_pick (L2 := [(0, 2, 63), (1, 0, v1), (2, 0, v2), (3, 0, v3), (4, 0, v4), (5, 0, v5), (6, 0, v5)]) [1, 2, 3, 4, 5, 6, 0] rfl ?_
    exact gh_M2_sound (T := fun v2 v6 m => gh_T E (gh_yModel_betters.cls, prog_14_method_86_code, 8, false, 8) (d + 1) 43 [(0, 2, 63), (1, 0, v1), (2, 0, v2), (3, 0, v3), (4, 0, v4), (5, 0, v5), (6, 0, v6)] [] m (fun r m1 => gh_F m1 ∧ Q r m1)) (fun _ _ m => gh_F m) (fun K43 v2 v6 m hK hF h => b_Model_betters_43 d hK30 hK v2 v6 m hF h) v2 v5 m hF h
  · have h := hB c3992
    obtain ⟨q4015, h⟩ := h
    refine gh_iinc (L2 := [(4, 0, v4 + 1), (0, 2, 63), (1, 0, v1), (2, 0, v2), (3, 0, v3), (5, 0, v5)]) gd_Model_betters_142 4 rfl q4015 (by decide) rfl ?_
    refine gh_goto (tgt := 17) gd_Model_betters_145 (by decide) ?_
    refine gh_pick (L2 := [(0, 2, 63), (1, 0, v1), (2, 0, v2), (3, 0, v3), (4, 0, v4 + 1)]) [1, 2, 3, 4, 0] rfl ?_
    exact hK17 v2 (v4 + 1) m hF h
theorem b_Model_betters_17 {E : gh_E} {v1 : Int} {v3 : Int} {K4 : Int → Int → gh_M → Prop} {Q : Int → gh_M → Prop} {K17 : Int → Int → gh_M → Prop} (d : Nat) (hK4 : ∀ (v2 : Int) (v3 : Int) (m : gh_M), gh_F m → K4 v2 v3 m → gh_T E (gh_yModel_betters.cls, prog_14_method_86_code, 8, false, 8) (d + 1) 4 [(0, 2, 63), (1, 0, v1), (2, 0, v2), (3, 0, v3)] [] m (fun r m1 => gh_F m1 ∧ Q r m1)) (hK : ∀ (v2 : Int) (v4 : Int) (m : gh_M), gh_F m → K17 v2 v4 m → gh_T E (gh_yModel_betters.cls, prog_14_method_86_code, 8, false, 8) (d + 1) 17 [(0, 2, 63), (1, 0, v1), (2, 0, v2), (3, 0, v3), (4, 0, v4)] [] m (fun r m1 => gh_F m1 ∧ Q r m1)) (v2 : Int) (v4 : Int) (m : gh_M) (hF : gh_F m) (h : f_Model_betters_17 v1 v3 K4 K17 v2 v4 m) : gh_T E (gh_yModel_betters.cls, prog_14_method_86_code, 8, false, 8) (d + 1) 17 [(0, 2, 63), (1, 0, v1), (2, 0, v2), (3, 0, v3), (4, 0, v4)] [] m (fun r m1 => gh_F m1 ∧ Q r m1) := by
  have hK17 := hK
  unfold f_Model_betters_17 at h
  refine gh_iload gd_Model_betters_17 4 rfl ?_
  refine gh_aload_n gd_Model_betters_19 0 rfl (by decide) ?_
  refine gf_63_50 gd_Model_betters_20 gh_k1420 hF rfl ?_
  obtain ⟨hA, hB⟩ := h
  refine gh_jgt (tgt := 148) gd_Model_betters_23 (by decide) (fun c3991 => ?_) (fun c3991 => ?_)
  · have h := hA c3991
    refine gh_iload gd_Model_betters_26 4 rfl ?_
    refine gh_istore (L2 := [(5, 0, v4), (0, 2, 63), (1, 0, v1), (2, 0, v2), (3, 0, v3), (4, 0, v4)]) gd_Model_betters_28 (by decide) rfl ?_
    refine gh_pick (L2 := [(0, 2, 63), (1, 0, v1), (2, 0, v2), (3, 0, v3), (4, 0, v4), (5, 0, v4)]) [1, 2, 3, 4, 5, 0] rfl ?_
    exact gh_M2_sound (T := fun v2 v5 m => gh_T E (gh_yModel_betters.cls, prog_14_method_86_code, 8, false, 8) (d + 1) 30 [(0, 2, 63), (1, 0, v1), (2, 0, v2), (3, 0, v3), (4, 0, v4), (5, 0, v5)] [] m (fun r m1 => gh_F m1 ∧ Q r m1)) (fun _ _ m => gh_F m) (fun K30 v2 v5 m hK hF h => b_Model_betters_30 d hK17 hK v2 v5 m hF h) v2 v4 m hF h
  · have h := hB c3991
    obtain ⟨q4016, h⟩ := h
    refine gh_iinc (L2 := [(3, 0, v3 + 1), (0, 2, 63), (1, 0, v1), (2, 0, v2), (4, 0, v4)]) gd_Model_betters_148 3 rfl q4016 (by decide) rfl ?_
    refine gh_goto (tgt := 4) gd_Model_betters_151 (by decide) ?_
    refine gh_pick (L2 := [(0, 2, 63), (1, 0, v1), (2, 0, v2), (3, 0, v3 + 1)]) [1, 2, 3, 0] rfl ?_
    exact hK4 v2 (v3 + 1) m hF h
theorem b_Model_betters_156 {E : gh_E} {v1 : Int} {Q : Int → gh_M → Prop} {K156 : Int → Int → gh_M → Prop} (d : Nat) (hK : ∀ (v2 : Int) (v3 : Int) (m : gh_M), gh_F m → K156 v2 v3 m → gh_T E (gh_yModel_betters.cls, prog_14_method_86_code, 8, false, 8) (d + 1) 156 [(0, 2, 63), (1, 0, v1), (2, 0, v2), (3, 0, v3)] [] m (fun r m1 => gh_F m1 ∧ Q r m1)) (v2 : Int) (v3 : Int) (m : gh_M) (hF : gh_F m) (h : f_Model_betters_156 v1 Q K156 v2 v3 m) : gh_T E (gh_yModel_betters.cls, prog_14_method_86_code, 8, false, 8) (d + 1) 156 [(0, 2, 63), (1, 0, v1), (2, 0, v2), (3, 0, v3)] [] m (fun r m1 => gh_F m1 ∧ Q r m1) := by
  have hK156 := hK
  unfold f_Model_betters_156 at h
  refine gh_iload_n gd_Model_betters_156 3 rfl ?_
  refine gh_bipush gd_Model_betters_157 (by decide) (gh_r0 rfl) ?_
  obtain ⟨hA, hB⟩ := h
  refine gh_jge (tgt := 233) gd_Model_betters_159 (by decide) (fun c4017 => ?_) (fun c4017 => ?_)
  · have h := hA c4017
    refine gh_aload_n gd_Model_betters_162 0 rfl (by decide) ?_
    refine gf_63_59 gd_Model_betters_163 gh_k1429 hF ?_
    refine gh_sipush gd_Model_betters_166 (by decide) (gh_r0 rfl) ?_
    refine gh_iload_n gd_Model_betters_169 1 rfl ?_
    obtain ⟨q4018, h⟩ := h
    refine gh_imul gd_Model_betters_170 q4018 ?_
    refine gh_bipush gd_Model_betters_171 (by decide) (gh_r0 rfl) ?_
    refine gh_aload_n gd_Model_betters_173 0 rfl (by decide) ?_
    refine gf_63_33 gd_Model_betters_174 gh_k1403 hF ?_
    refine gh_iload_n gd_Model_betters_177 1 rfl ?_
    obtain ⟨q4019, h⟩ := h
    obtain ⟨q4020, h⟩ := h
    refine la_80 gd_Model_betters_178 hF q4019 q4020 rfl ?_
    obtain ⟨q4021, h⟩ := h
    refine gh_imul gd_Model_betters_179 q4021 ?_
    obtain ⟨q4022, h⟩ := h
    refine gh_iadd gd_Model_betters_180 q4022 ?_
    refine gh_iload_n gd_Model_betters_181 3 rfl ?_
    obtain ⟨q4023, h⟩ := h
    refine gh_iadd gd_Model_betters_182 q4023 ?_
    obtain ⟨q4024, h⟩ := h
    obtain ⟨q4025, h⟩ := h
    refine la_103 gd_Model_betters_183 hF q4024 q4025 rfl ?_
    refine gh_name (fun v4 hn => ?_)
    have h := h v4 hn
    refine gh_istore (L2 := [(4, 0, v4), (0, 2, 63), (1, 0, v1), (2, 0, v2), (3, 0, v3)]) gd_Model_betters_184 (by decide) rfl ?_
    refine gh_iload gd_Model_betters_186 0 rfl ?_
    refine gh_aload_n gd_Model_betters_188 1 rfl (by decide) ?_
    refine gf_63_58 gd_Model_betters_189 gh_k1428 hF ?_
    refine gh_bipush gd_Model_betters_192 (by decide) (gh_r0 rfl) ?_
    refine gh_aload_n gd_Model_betters_194 1 rfl (by decide) ?_
    refine gf_63_32 gd_Model_betters_195 gh_k1402 hF ?_
    refine gh_iload_n gd_Model_betters_198 2 rfl ?_
    obtain ⟨q4026, h⟩ := h
    obtain ⟨q4027, h⟩ := h
    refine la_79 gd_Model_betters_199 hF q4026 q4027 rfl ?_
    obtain ⟨q4028, h⟩ := h
    refine gh_imul gd_Model_betters_200 q4028 ?_
    refine gh_iload_n gd_Model_betters_201 4 rfl ?_
    obtain ⟨q4029, h⟩ := h
    refine gh_iadd gd_Model_betters_202 q4029 ?_
    obtain ⟨q4030, h⟩ := h
    obtain ⟨q4031, h⟩ := h
    refine la_102 gd_Model_betters_203 hF q4030 q4031 rfl ?_
    obtain ⟨J227, hJ227, h⟩ := h
    have hJ227 : ∀ (v2' : Int) (m : gh_M), gh_F m → J227 v2' m → gh_T E (gh_yModel_betters.cls, prog_14_method_86_code, 8, false, 8) (d + 1) 227 [(0, 2, 63), (1, 0, v1), (2, 0, v2'), (3, 0, v3)] [] m (fun r m1 => gh_F m1 ∧ Q r m1) := by
      intro v2' m hF hj
      have h := hJ227 v2' m hj
      obtain ⟨q4032, h⟩ := h
      refine gh_iinc (L2 := [(3, 0, v3 + 1), (0, 2, 63), (1, 0, v1), (2, 0, v2')]) gd_Model_betters_227 3 rfl q4032 (by decide) rfl ?_
      refine gh_goto (tgt := 156) gd_Model_betters_230 (by decide) ?_
      refine gh_pick (L2 := [(0, 2, 63), (1, 0, v1), (2, 0, v2'), (3, 0, v3 + 1)]) [1, 2, 3, 0] rfl ?_
      exact hK156 v2' (v3 + 1) m hF h
    obtain ⟨hA, hB⟩ := h
    refine gh_jge (tgt := 227) gd_Model_betters_204 (by decide) (fun c4033 => ?_) (fun c4033 => ?_)
    · have h := hA c4033
      refine gh_aload_n gd_Model_betters_207 1 rfl (by decide) ?_
      refine gf_63_58 gd_Model_betters_208 gh_k1428 hF ?_
      refine gh_bipush gd_Model_betters_211 (by decide) (gh_r0 rfl) ?_
      refine gh_aload_n gd_Model_betters_213 1 rfl (by decide) ?_
      refine gf_63_32 gd_Model_betters_214 gh_k1402 hF ?_
      refine gh_iload_n gd_Model_betters_217 2 rfl ?_
      obtain ⟨q4034, h⟩ := h
      obtain ⟨q4035, h⟩ := h
      refine la_79 gd_Model_betters_218 hF q4034 q4035 rfl ?_
      obtain ⟨q4036, h⟩ := h
      refine gh_imul gd_Model_betters_219 q4036 ?_
      refine gh_iload_n gd_Model_betters_220 4 rfl ?_
      obtain ⟨q4037, h⟩ := h
      refine gh_iadd gd_Model_betters_221 q4037 ?_
      refine gh_iload gd_Model_betters_222 0 rfl ?_
      obtain ⟨q4038, h⟩ := h
      obtain ⟨q4039, h⟩ := h
      refine sa_102 gd_Model_betters_224 hF q4038 q4039 (fun hF => ?_)
      refine gh_iconst gd_Model_betters_225 (gh_r0 rfl) ?_
      refine gh_istore_n (L2 := [(2, 0, 1), (4, 0, v4), (0, 2, 63), (1, 0, v1), (3, 0, v3)]) gd_Model_betters_226 (by decide) rfl ?_
      refine gh_pick (L2 := [(0, 2, 63), (1, 0, v1), (2, 0, 1), (3, 0, v3)]) [2, 3, 0, 4] rfl ?_
      exact hJ227 1 (gh_u m 102 ((81 * (m 79 v1)) + v3) v4) hF h
    · have h := hB c4033
      refine gh_pick (L2 := [(0, 2, 63), (1, 0, v1), (2, 0, v2), (3, 0, v3)]) [1, 2, 3, 4] rfl ?_
      exact hJ227 v2 m hF h
  · have h := hB c4017
    refine gh_iload_n gd_Model_betters_233 2 rfl ?_
    obtain ⟨q4040, h⟩ := h
    exact gh_ret8 rfl gd_Model_betters_234 q4040 ⟨hF, h⟩
theorem b_Model_betters_4 {E : gh_E} {v1 : Int} {Q : Int → gh_M → Prop} {K4 : Int → Int → gh_M → Prop} (d : Nat) (hK : ∀ (v2 : Int) (v3 : Int) (m : gh_M), gh_F m → K4 v2 v3 m → gh_T E (gh_yModel_betters.cls, prog_14_method_86_code, 8, false, 8) (d + 1) 4 [(0, 2, 63), (1, 0, v1), (2, 0, v2), (3, 0, v3)] [] m (fun r m1 => gh_F m1 ∧ Q r m1)) (v2 : Int) (v3 : Int) (m : gh_M) (hF : gh_F m) (h : f_Model_betters_4 v1 Q K4 v2 v3 m) : gh_T E (gh_yModel_betters.cls, prog_14_method_86_code, 8, false, 8) (d + 1) 4 [(0, 2, 63), (1, 0, v1), (2, 0, v2), (3, 0, v3)] [] m (fun r m1 => gh_F m1 ∧ Q r m1) := by
  have hK4 := hK
  unfold f_Model_betters_4 at h
  refine gh_iload_n gd_Model_betters_4 3 rfl ?_
  refine gh_aload_n gd_Model_betters_5 0 rfl (by decide) ?_
  refine gf_63_33 gd_Model_betters_6 gh_k1403 hF ?_
  refine gh_iload_n gd_Model_betters_9 1 rfl ?_
  obtain ⟨q3988, h⟩ := h
  obtain ⟨q3989, h⟩ := h
  refine la_80 gd_Model_betters_10 hF q3988 q3989 rfl ?_
  obtain ⟨hA, hB⟩ := h
  refine gh_jge (tgt := 154) gd_Model_betters_11 (by decide) (fun c3990 => ?_) (fun c3990 => ?_)
  · have h := hA c3990
    refine gh_iconst gd_Model_betters_14 (gh_r0 rfl) ?_
    refine gh_istore (L2 := [(4, 0, 0), (0, 2, 63), (1, 0, v1), (2, 0, v2), (3, 0, v3)]) gd_Model_betters_15 (by decide) rfl ?_
    refine gh_pick (L2 := [(0, 2, 63), (1, 0, v1), (2, 0, v2), (3, 0, v3), (4, 0, 0)]) [1, 2, 3, 4, 0] rfl ?_
    exact gh_M2_sound (T := fun v2 v4 m => gh_T E (gh_yModel_betters.cls, prog_14_method_86_code, 8, false, 8) (d + 1) 17 [(0, 2, 63), (1, 0, v1), (2, 0, v2), (3, 0, v3), (4, 0, v4)] [] m (fun r m1 => gh_F m1 ∧ Q r m1)) (fun _ _ m => gh_F m) (fun K17 v2 v4 m hK hF h => b_Model_betters_17 d hK4 hK v2 v4 m hF h) v2 0 m hF h
  · have h := hB c3990
    refine gh_iconst gd_Model_betters_154 (gh_r0 rfl) ?_
    refine gh_istore_n (L2 := [(3, 0, 0), (0, 2, 63), (1, 0, v1), (2, 0, v2)]) gd_Model_betters_155 (by decide) rfl ?_
    refine gh_pick (L2 := [(0, 2, 63), (1, 0, v1), (2, 0, v2), (3, 0, 0)]) [1, 2, 3, 0] rfl ?_
    exact gh_M2_sound (T := fun v2 v3 m => gh_T E (gh_yModel_betters.cls, prog_14_method_86_code, 8, false, 8) (d + 1) 156 [(0, 2, 63), (1, 0, v1), (2, 0, v2), (3, 0, v3)] [] m (fun r m1 => gh_F m1 ∧ Q r m1)) (fun _ _ m => gh_F m) (fun K156 v2 v3 m hK hF h => b_Model_betters_156 d hK v2 v3 m hF h) v2 0 m hF h
theorem s_Model_betters {E : gh_E} {m : gh_M} {Q : Int → gh_M → Prop} (d : Nat) (v1 : Int) (hF : gh_F m) (h : w_Model_betters v1 m Q) : gh_C E gh_yModel_betters prog_14_method_86_code 8 (some .boolean) 8 (d + 1) [(2, 63), (0, v1)] m (fun r m1 => gh_F m1 ∧ Q r m1) := by
  refine gh_enter2 (L := [(0, 2, 63), (1, 0, v1)]) (by decide +kernel) gh_rt8 (Nat.le_of_ble_eq_true rfl) rfl rfl ?_
  unfold w_Model_betters at h
  refine gh_iconst gd_Model_betters_0 (gh_r0 rfl) ?_
  refine gh_istore_n (L2 := [(2, 0, 0), (0, 2, 63), (1, 0, v1)]) gd_Model_betters_1 (by decide) rfl ?_
  refine gh_iconst gd_Model_betters_2 (gh_r0 rfl) ?_
  refine gh_istore_n (L2 := [(3, 0, 0), (2, 0, 0), (0, 2, 63), (1, 0, v1)]) gd_Model_betters_3 (by decide) rfl ?_
  refine gh_pick (L2 := [(0, 2, 63), (1, 0, v1), (2, 0, 0), (3, 0, 0)]) [2, 3, 1, 0] rfl ?_
  exact gh_M2_sound (T := fun v2 v3 m => gh_T E (gh_yModel_betters.cls, prog_14_method_86_code, 8, false, 8) (d + 1) 4 [(0, 2, 63), (1, 0, v1), (2, 0, v2), (3, 0, v3)] [] m (fun r m1 => gh_F m1 ∧ Q r m1)) (fun _ _ m => gh_F m) (fun K4 v2 v3 m hK hF h => b_Model_betters_4 d hK v2 v3 m hF h) 0 0 m hF h
